section
-- ===== PART A: goes FIRST, ahead of the names: the tables' words, and 'selects' of the private methods out of them =====
/-- a private method of a class that the tables say can be made, by its rows of tables_1 -/
def lw_okq (q : MethodName × Nat) : Prop := (q.1.cls ≠ "java/lang/invoke/MethodHandle" ∧ q.1.cls ≠ "java/lang/invoke/VarHandle") ∧ Cond.instantiable q.1.cls q.2 ∈ tables_1 ∧ Cond.privateMethod q.1 ∈ tables_1 ∧ Cond.instanceMethod q.1 ∈ tables_1
theorem lw_p0 : lw_okq (⟨"CreaseFlat", "addPaper", "(III)I"⟩, 15) := ⟨⟨by decide +kernel, by decide +kernel⟩, List.mem_of_getElem? (i := 12) (by decide +kernel), List.mem_of_getElem? (i := 151) (by decide +kernel), List.mem_of_getElem? (i := 152) (by decide +kernel)⟩
theorem lw_p1 : lw_okq (⟨"CreaseFlat$Paper", "joinFaces", "()V"⟩, 18) := ⟨⟨by decide +kernel, by decide +kernel⟩, List.mem_of_getElem? (i := 154) (by decide +kernel), List.mem_of_getElem? (i := 163) (by decide +kernel), List.mem_of_getElem? (i := 164) (by decide +kernel)⟩
theorem lw_p2 : lw_okq (⟨"CreaseFlat$Paper", "join", "(III)V"⟩, 18) := ⟨⟨by decide +kernel, by decide +kernel⟩, List.mem_of_getElem? (i := 154) (by decide +kernel), List.mem_of_getElem? (i := 167) (by decide +kernel), List.mem_of_getElem? (i := 168) (by decide +kernel)⟩
theorem lw_p3 : lw_okq (⟨"CreaseFlat$Paper", "sideOf", "(I)I"⟩, 18) := ⟨⟨by decide +kernel, by decide +kernel⟩, List.mem_of_getElem? (i := 154) (by decide +kernel), List.mem_of_getElem? (i := 179) (by decide +kernel), List.mem_of_getElem? (i := 180) (by decide +kernel)⟩
theorem lw_p4 : lw_okq (⟨"CreaseFlat$Paper", "facesOver", "(I)I"⟩, 18) := ⟨⟨by decide +kernel, by decide +kernel⟩, List.mem_of_getElem? (i := 154) (by decide +kernel), List.mem_of_getElem? (i := 183) (by decide +kernel), List.mem_of_getElem? (i := 184) (by decide +kernel)⟩
theorem lw_p5 : lw_okq (⟨"CreaseFlat$Paper", "rivalsOf", "(I)I"⟩, 18) := ⟨⟨by decide +kernel, by decide +kernel⟩, List.mem_of_getElem? (i := 154) (by decide +kernel), List.mem_of_getElem? (i := 196) (by decide +kernel), List.mem_of_getElem? (i := 197) (by decide +kernel)⟩
theorem lw_p6 : lw_okq (⟨"CreaseFlat$Paper", "onOneSide", "(II)Z"⟩, 18) := ⟨⟨by decide +kernel, by decide +kernel⟩, List.mem_of_getElem? (i := 154) (by decide +kernel), List.mem_of_getElem? (i := 200) (by decide +kernel), List.mem_of_getElem? (i := 201) (by decide +kernel)⟩
theorem lw_p7 : lw_okq (⟨"CreaseFlat$Paper", "haveFourFaces", "(II)Z"⟩, 18) := ⟨⟨by decide +kernel, by decide +kernel⟩, List.mem_of_getElem? (i := 154) (by decide +kernel), List.mem_of_getElem? (i := 204) (by decide +kernel), List.mem_of_getElem? (i := 205) (by decide +kernel)⟩
theorem lw_p8 : lw_okq (⟨"CreaseFlat", "find", "(I)LCreaseFlat$Paper;"⟩, 15) := ⟨⟨by decide +kernel, by decide +kernel⟩, List.mem_of_getElem? (i := 12) (by decide +kernel), List.mem_of_getElem? (i := 304) (by decide +kernel), List.mem_of_getElem? (i := 305) (by decide +kernel)⟩
theorem lw_p9 : lw_okq (⟨"CreaseFlat$Pile", "demandsClash", "(LCreaseFlat$Paper;)Z"⟩, 10) := ⟨⟨by decide +kernel, by decide +kernel⟩, List.mem_of_getElem? (i := 22) (by decide +kernel), List.mem_of_getElem? (i := 374) (by decide +kernel), List.mem_of_getElem? (i := 375) (by decide +kernel)⟩
theorem lw_p10 : lw_okq (⟨"CreaseFlat$Pile", "candidates", "(LCreaseFlat$Paper;)I"⟩, 10) := ⟨⟨by decide +kernel, by decide +kernel⟩, List.mem_of_getElem? (i := 22) (by decide +kernel), List.mem_of_getElem? (i := 378) (by decide +kernel), List.mem_of_getElem? (i := 379) (by decide +kernel)⟩
theorem lw_p11 : lw_okq (⟨"CreaseFlat$Pile", "barredFromClosing", "(LCreaseFlat$Paper;I)I"⟩, 10) := ⟨⟨by decide +kernel, by decide +kernel⟩, List.mem_of_getElem? (i := 22) (by decide +kernel), List.mem_of_getElem? (i := 382) (by decide +kernel), List.mem_of_getElem? (i := 383) (by decide +kernel)⟩
theorem lw_p12 : lw_okq (⟨"CreaseFlat$Pile", "readyAmong", "(LCreaseFlat$Paper;I)I"⟩, 10) := ⟨⟨by decide +kernel, by decide +kernel⟩, List.mem_of_getElem? (i := 22) (by decide +kernel), List.mem_of_getElem? (i := 386) (by decide +kernel), List.mem_of_getElem? (i := 387) (by decide +kernel)⟩
theorem lw_p13 : lw_okq (⟨"CreaseFlat$Pile", "leastUntried", "()I"⟩, 10) := ⟨⟨by decide +kernel, by decide +kernel⟩, List.mem_of_getElem? (i := 22) (by decide +kernel), List.mem_of_getElem? (i := 391) (by decide +kernel), List.mem_of_getElem? (i := 392) (by decide +kernel)⟩
theorem lw_p14 : lw_okq (⟨"CreaseFlat$Pile", "put", "(LCreaseFlat$Paper;I)V"⟩, 10) := ⟨⟨by decide +kernel, by decide +kernel⟩, List.mem_of_getElem? (i := 22) (by decide +kernel), List.mem_of_getElem? (i := 395) (by decide +kernel), List.mem_of_getElem? (i := 396) (by decide +kernel)⟩
theorem lw_p15 : lw_okq (⟨"CreaseFlat$Pile", "takeOff", "()V"⟩, 10) := ⟨⟨by decide +kernel, by decide +kernel⟩, List.mem_of_getElem? (i := 22) (by decide +kernel), List.mem_of_getElem? (i := 399) (by decide +kernel), List.mem_of_getElem? (i := 400) (by decide +kernel)⟩
def lw_privs_1 : List (MethodName × Nat) := [(⟨"CreaseFlat", "addPaper", "(III)I"⟩, 15), (⟨"CreaseFlat$Paper", "joinFaces", "()V"⟩, 18), (⟨"CreaseFlat$Paper", "join", "(III)V"⟩, 18), (⟨"CreaseFlat$Paper", "sideOf", "(I)I"⟩, 18), (⟨"CreaseFlat$Paper", "facesOver", "(I)I"⟩, 18), (⟨"CreaseFlat$Paper", "rivalsOf", "(I)I"⟩, 18), (⟨"CreaseFlat$Paper", "onOneSide", "(II)Z"⟩, 18), (⟨"CreaseFlat$Paper", "haveFourFaces", "(II)Z"⟩, 18), (⟨"CreaseFlat", "find", "(I)LCreaseFlat$Paper;"⟩, 15), (⟨"CreaseFlat$Pile", "demandsClash", "(LCreaseFlat$Paper;)Z"⟩, 10), (⟨"CreaseFlat$Pile", "candidates", "(LCreaseFlat$Paper;)I"⟩, 10), (⟨"CreaseFlat$Pile", "barredFromClosing", "(LCreaseFlat$Paper;I)I"⟩, 10), (⟨"CreaseFlat$Pile", "readyAmong", "(LCreaseFlat$Paper;I)I"⟩, 10), (⟨"CreaseFlat$Pile", "leastUntried", "()I"⟩, 10), (⟨"CreaseFlat$Pile", "put", "(LCreaseFlat$Paper;I)V"⟩, 10), (⟨"CreaseFlat$Pile", "takeOff", "()V"⟩, 10)]
theorem lw_r1 : ∀ q ∈ lw_privs_1, lw_okq q := List.forall_mem_cons.mpr ⟨lw_p0, List.forall_mem_cons.mpr ⟨lw_p1, List.forall_mem_cons.mpr ⟨lw_p2, List.forall_mem_cons.mpr ⟨lw_p3, List.forall_mem_cons.mpr ⟨lw_p4, List.forall_mem_cons.mpr ⟨lw_p5, List.forall_mem_cons.mpr ⟨lw_p6, List.forall_mem_cons.mpr ⟨lw_p7, List.forall_mem_cons.mpr ⟨lw_p8, List.forall_mem_cons.mpr ⟨lw_p9, List.forall_mem_cons.mpr ⟨lw_p10, List.forall_mem_cons.mpr ⟨lw_p11, List.forall_mem_cons.mpr ⟨lw_p12, List.forall_mem_cons.mpr ⟨lw_p13, List.forall_mem_cons.mpr ⟨lw_p14, List.forall_mem_cons.mpr ⟨lw_p15, fun _ h => absurd h List.not_mem_nil⟩⟩⟩⟩⟩⟩⟩⟩⟩⟩⟩⟩⟩⟩⟩⟩
theorem lw_p16 : lw_okq (⟨"CreaseFlat", "readOrder", "(IJ)Z"⟩, 15) := ⟨⟨by decide +kernel, by decide +kernel⟩, List.mem_of_getElem? (i := 12) (by decide +kernel), List.mem_of_getElem? (i := 438) (by decide +kernel), List.mem_of_getElem? (i := 439) (by decide +kernel)⟩
theorem lw_p17 : lw_okq (⟨"CreaseFlat$Paper", "liesWithin", "(II[I)Z"⟩, 18) := ⟨⟨by decide +kernel, by decide +kernel⟩, List.mem_of_getElem? (i := 154) (by decide +kernel), List.mem_of_getElem? (i := 456) (by decide +kernel), List.mem_of_getElem? (i := 457) (by decide +kernel)⟩
theorem lw_p18 : lw_okq (⟨"CreaseFlat", "canBecome", "(LCreaseFlat$Paper;II)Z"⟩, 15) := ⟨⟨by decide +kernel, by decide +kernel⟩, List.mem_of_getElem? (i := 12) (by decide +kernel), List.mem_of_getElem? (i := 468) (by decide +kernel), List.mem_of_getElem? (i := 469) (by decide +kernel)⟩
theorem lw_p19 : lw_okq (⟨"CreaseFlat", "canLieBelow", "(LCreaseFlat$Paper;II)Z"⟩, 15) := ⟨⟨by decide +kernel, by decide +kernel⟩, List.mem_of_getElem? (i := 12) (by decide +kernel), List.mem_of_getElem? (i := 477) (by decide +kernel), List.mem_of_getElem? (i := 478) (by decide +kernel)⟩
theorem lw_p20 : lw_okq (⟨"CreaseFlat", "allowTheSame", "(LCreaseFlat$Paper;LCreaseFlat$Paper;)Z"⟩, 15) := ⟨⟨by decide +kernel, by decide +kernel⟩, List.mem_of_getElem? (i := 12) (by decide +kernel), List.mem_of_getElem? (i := 486) (by decide +kernel), List.mem_of_getElem? (i := 487) (by decide +kernel)⟩
theorem lw_p21 : lw_okq (⟨"CreaseFlat", "isNew", "(I)Z"⟩, 15) := ⟨⟨by decide +kernel, by decide +kernel⟩, List.mem_of_getElem? (i := 12) (by decide +kernel), List.mem_of_getElem? (i := 501) (by decide +kernel), List.mem_of_getElem? (i := 502) (by decide +kernel)⟩
theorem lw_p22 : lw_okq (⟨"CreaseFlat", "allowsSome", "(LCreaseFlat$Paper;I)Z"⟩, 15) := ⟨⟨by decide +kernel, by decide +kernel⟩, List.mem_of_getElem? (i := 12) (by decide +kernel), List.mem_of_getElem? (i := 509) (by decide +kernel), List.mem_of_getElem? (i := 510) (by decide +kernel)⟩
theorem lw_p23 : lw_okq (⟨"CreaseFlat$Ways", "tryLines", "(LCreaseFlat$Paper;IILCreaseFlat$Lay;)V"⟩, 3) := ⟨⟨by decide +kernel, by decide +kernel⟩, List.mem_of_getElem? (i := 84) (by decide +kernel), List.mem_of_getElem? (i := 544) (by decide +kernel), List.mem_of_getElem? (i := 545) (by decide +kernel)⟩
theorem lw_p24 : lw_okq (⟨"CreaseFlat$Ways", "tryStep", "(LCreaseFlat$Paper;IILCreaseFlat$Lay;)V"⟩, 3) := ⟨⟨by decide +kernel, by decide +kernel⟩, List.mem_of_getElem? (i := 84) (by decide +kernel), List.mem_of_getElem? (i := 551) (by decide +kernel), List.mem_of_getElem? (i := 552) (by decide +kernel)⟩
theorem lw_p25 : lw_okq (⟨"CreaseFlat$Lay", "unfoldedAt", "(LCreaseFlat$Paper;II)I"⟩, 3) := ⟨⟨by decide +kernel, by decide +kernel⟩, List.mem_of_getElem? (i := 62) (by decide +kernel), List.mem_of_getElem? (i := 559) (by decide +kernel), List.mem_of_getElem? (i := 560) (by decide +kernel)⟩
theorem lw_p26 : lw_okq (⟨"CreaseFlat$Lay", "isWithinOne", "(LCreaseFlat$Paper;II)Z"⟩, 3) := ⟨⟨by decide +kernel, by decide +kernel⟩, List.mem_of_getElem? (i := 62) (by decide +kernel), List.mem_of_getElem? (i := 563) (by decide +kernel), List.mem_of_getElem? (i := 564) (by decide +kernel)⟩
theorem lw_p27 : lw_okq (⟨"CreaseFlat$Lay", "marksAllow", "(LCreaseFlat$Paper;IZ)Z"⟩, 3) := ⟨⟨by decide +kernel, by decide +kernel⟩, List.mem_of_getElem? (i := 62) (by decide +kernel), List.mem_of_getElem? (i := 568) (by decide +kernel), List.mem_of_getElem? (i := 569) (by decide +kernel)⟩
theorem lw_p28 : lw_okq (⟨"CreaseFlatModel", "add", "(II)I"⟩, 29) := ⟨⟨by decide +kernel, by decide +kernel⟩, List.mem_of_getElem? (i := 604) (by decide +kernel), List.mem_of_getElem? (i := 704) (by decide +kernel), List.mem_of_getElem? (i := 705) (by decide +kernel)⟩
theorem lw_p29 : lw_okq (⟨"CreaseFlatModel", "addCrease", "(III)V"⟩, 29) := ⟨⟨by decide +kernel, by decide +kernel⟩, List.mem_of_getElem? (i := 604) (by decide +kernel), List.mem_of_getElem? (i := 708) (by decide +kernel), List.mem_of_getElem? (i := 709) (by decide +kernel)⟩
theorem lw_p30 : lw_okq (⟨"CreaseFlatModel", "hasFace", "(II)Z"⟩, 29) := ⟨⟨by decide +kernel, by decide +kernel⟩, List.mem_of_getElem? (i := 604) (by decide +kernel), List.mem_of_getElem? (i := 724) (by decide +kernel), List.mem_of_getElem? (i := 725) (by decide +kernel)⟩
theorem lw_p31 : lw_okq (⟨"CreaseFlatModel", "has", "(I)Z"⟩, 29) := ⟨⟨by decide +kernel, by decide +kernel⟩, List.mem_of_getElem? (i := 604) (by decide +kernel), List.mem_of_getElem? (i := 728) (by decide +kernel), List.mem_of_getElem? (i := 729) (by decide +kernel)⟩
def lw_privs_2 : List (MethodName × Nat) := [(⟨"CreaseFlat", "readOrder", "(IJ)Z"⟩, 15), (⟨"CreaseFlat$Paper", "liesWithin", "(II[I)Z"⟩, 18), (⟨"CreaseFlat", "canBecome", "(LCreaseFlat$Paper;II)Z"⟩, 15), (⟨"CreaseFlat", "canLieBelow", "(LCreaseFlat$Paper;II)Z"⟩, 15), (⟨"CreaseFlat", "allowTheSame", "(LCreaseFlat$Paper;LCreaseFlat$Paper;)Z"⟩, 15), (⟨"CreaseFlat", "isNew", "(I)Z"⟩, 15), (⟨"CreaseFlat", "allowsSome", "(LCreaseFlat$Paper;I)Z"⟩, 15), (⟨"CreaseFlat$Ways", "tryLines", "(LCreaseFlat$Paper;IILCreaseFlat$Lay;)V"⟩, 3), (⟨"CreaseFlat$Ways", "tryStep", "(LCreaseFlat$Paper;IILCreaseFlat$Lay;)V"⟩, 3), (⟨"CreaseFlat$Lay", "unfoldedAt", "(LCreaseFlat$Paper;II)I"⟩, 3), (⟨"CreaseFlat$Lay", "isWithinOne", "(LCreaseFlat$Paper;II)Z"⟩, 3), (⟨"CreaseFlat$Lay", "marksAllow", "(LCreaseFlat$Paper;IZ)Z"⟩, 3), (⟨"CreaseFlatModel", "add", "(II)I"⟩, 29), (⟨"CreaseFlatModel", "addCrease", "(III)V"⟩, 29), (⟨"CreaseFlatModel", "hasFace", "(II)Z"⟩, 29), (⟨"CreaseFlatModel", "has", "(I)Z"⟩, 29)]
theorem lw_r2 : ∀ q ∈ lw_privs_2, lw_okq q := List.forall_mem_cons.mpr ⟨lw_p16, List.forall_mem_cons.mpr ⟨lw_p17, List.forall_mem_cons.mpr ⟨lw_p18, List.forall_mem_cons.mpr ⟨lw_p19, List.forall_mem_cons.mpr ⟨lw_p20, List.forall_mem_cons.mpr ⟨lw_p21, List.forall_mem_cons.mpr ⟨lw_p22, List.forall_mem_cons.mpr ⟨lw_p23, List.forall_mem_cons.mpr ⟨lw_p24, List.forall_mem_cons.mpr ⟨lw_p25, List.forall_mem_cons.mpr ⟨lw_p26, List.forall_mem_cons.mpr ⟨lw_p27, List.forall_mem_cons.mpr ⟨lw_p28, List.forall_mem_cons.mpr ⟨lw_p29, List.forall_mem_cons.mpr ⟨lw_p30, List.forall_mem_cons.mpr ⟨lw_p31, fun _ h => absurd h List.not_mem_nil⟩⟩⟩⟩⟩⟩⟩⟩⟩⟩⟩⟩⟩⟩⟩⟩
theorem lw_p32 : lw_okq (⟨"CreaseFlatModel", "hasCrease", "(II)Z"⟩, 29) := ⟨⟨by decide +kernel, by decide +kernel⟩, List.mem_of_getElem? (i := 604) (by decide +kernel), List.mem_of_getElem? (i := 736) (by decide +kernel), List.mem_of_getElem? (i := 737) (by decide +kernel)⟩
theorem lw_p33 : lw_okq (⟨"CreaseFlatModel", "marked", "(II)I"⟩, 29) := ⟨⟨by decide +kernel, by decide +kernel⟩, List.mem_of_getElem? (i := 604) (by decide +kernel), List.mem_of_getElem? (i := 744) (by decide +kernel), List.mem_of_getElem? (i := 745) (by decide +kernel)⟩
theorem lw_p34 : lw_okq (⟨"CreaseFlatModel", "uneven", "(I)I"⟩, 29) := ⟨⟨by decide +kernel, by decide +kernel⟩, List.mem_of_getElem? (i := 604) (by decide +kernel), List.mem_of_getElem? (i := 748) (by decide +kernel), List.mem_of_getElem? (i := 749) (by decide +kernel)⟩
theorem lw_p35 : lw_okq (⟨"CreaseFlatModel", "placeOf", "(II)I"⟩, 29) := ⟨⟨by decide +kernel, by decide +kernel⟩, List.mem_of_getElem? (i := 604) (by decide +kernel), List.mem_of_getElem? (i := 756) (by decide +kernel), List.mem_of_getElem? (i := 757) (by decide +kernel)⟩
theorem lw_p36 : lw_okq (⟨"CreaseFlatModel", "begins", "(II)I"⟩, 29) := ⟨⟨by decide +kernel, by decide +kernel⟩, List.mem_of_getElem? (i := 604) (by decide +kernel), List.mem_of_getElem? (i := 760) (by decide +kernel), List.mem_of_getElem? (i := 761) (by decide +kernel)⟩
theorem lw_p37 : lw_okq (⟨"CreaseFlatModel", "begin", "(I)V"⟩, 29) := ⟨⟨by decide +kernel, by decide +kernel⟩, List.mem_of_getElem? (i := 604) (by decide +kernel), List.mem_of_getElem? (i := 768) (by decide +kernel), List.mem_of_getElem? (i := 769) (by decide +kernel)⟩
theorem lw_p38 : lw_okq (⟨"CreaseFlatModel", "next", "()Z"⟩, 29) := ⟨⟨by decide +kernel, by decide +kernel⟩, List.mem_of_getElem? (i := 604) (by decide +kernel), List.mem_of_getElem? (i := 772) (by decide +kernel), List.mem_of_getElem? (i := 773) (by decide +kernel)⟩
theorem lw_p39 : lw_okq (⟨"CreaseFlatModel", "isFine", "(I)Z"⟩, 29) := ⟨⟨by decide +kernel, by decide +kernel⟩, List.mem_of_getElem? (i := 604) (by decide +kernel), List.mem_of_getElem? (i := 776) (by decide +kernel), List.mem_of_getElem? (i := 777) (by decide +kernel)⟩
theorem lw_p40 : lw_okq (⟨"CreaseFlatModel", "isClosed", "(III)Z"⟩, 29) := ⟨⟨by decide +kernel, by decide +kernel⟩, List.mem_of_getElem? (i := 604) (by decide +kernel), List.mem_of_getElem? (i := 780) (by decide +kernel), List.mem_of_getElem? (i := 781) (by decide +kernel)⟩
theorem lw_p41 : lw_okq (⟨"CreaseFlatModel", "markIn", "(I)I"⟩, 29) := ⟨⟨by decide +kernel, by decide +kernel⟩, List.mem_of_getElem? (i := 604) (by decide +kernel), List.mem_of_getElem? (i := 784) (by decide +kernel), List.mem_of_getElem? (i := 785) (by decide +kernel)⟩
theorem lw_p42 : lw_okq (⟨"CreaseFlatModel", "isUp", "(II)Z"⟩, 29) := ⟨⟨by decide +kernel, by decide +kernel⟩, List.mem_of_getElem? (i := 604) (by decide +kernel), List.mem_of_getElem? (i := 788) (by decide +kernel), List.mem_of_getElem? (i := 789) (by decide +kernel)⟩
theorem lw_p43 : lw_okq (⟨"CreaseFlatModel", "isOneSide", "(II)Z"⟩, 29) := ⟨⟨by decide +kernel, by decide +kernel⟩, List.mem_of_getElem? (i := 604) (by decide +kernel), List.mem_of_getElem? (i := 798) (by decide +kernel), List.mem_of_getElem? (i := 799) (by decide +kernel)⟩
theorem lw_p44 : lw_okq (⟨"CreaseFlatModel", "isFour", "(II)Z"⟩, 29) := ⟨⟨by decide +kernel, by decide +kernel⟩, List.mem_of_getElem? (i := 604) (by decide +kernel), List.mem_of_getElem? (i := 802) (by decide +kernel), List.mem_of_getElem? (i := 803) (by decide +kernel)⟩
theorem lw_p45 : lw_okq (⟨"CreaseFlatModel", "isWithin", "(II)Z"⟩, 29) := ⟨⟨by decide +kernel, by decide +kernel⟩, List.mem_of_getElem? (i := 604) (by decide +kernel), List.mem_of_getElem? (i := 806) (by decide +kernel), List.mem_of_getElem? (i := 807) (by decide +kernel)⟩
theorem lw_p46 : lw_okq (⟨"CreaseFlatModel", "number", "()J"⟩, 29) := ⟨⟨by decide +kernel, by decide +kernel⟩, List.mem_of_getElem? (i := 604) (by decide +kernel), List.mem_of_getElem? (i := 827) (by decide +kernel), List.mem_of_getElem? (i := 828) (by decide +kernel)⟩
theorem lw_p47 : lw_okq (⟨"CreaseFlatModel", "isBetween", "(II)Z"⟩, 29) := ⟨⟨by decide +kernel, by decide +kernel⟩, List.mem_of_getElem? (i := 604) (by decide +kernel), List.mem_of_getElem? (i := 838) (by decide +kernel), List.mem_of_getElem? (i := 839) (by decide +kernel)⟩
def lw_privs_3 : List (MethodName × Nat) := [(⟨"CreaseFlatModel", "hasCrease", "(II)Z"⟩, 29), (⟨"CreaseFlatModel", "marked", "(II)I"⟩, 29), (⟨"CreaseFlatModel", "uneven", "(I)I"⟩, 29), (⟨"CreaseFlatModel", "placeOf", "(II)I"⟩, 29), (⟨"CreaseFlatModel", "begins", "(II)I"⟩, 29), (⟨"CreaseFlatModel", "begin", "(I)V"⟩, 29), (⟨"CreaseFlatModel", "next", "()Z"⟩, 29), (⟨"CreaseFlatModel", "isFine", "(I)Z"⟩, 29), (⟨"CreaseFlatModel", "isClosed", "(III)Z"⟩, 29), (⟨"CreaseFlatModel", "markIn", "(I)I"⟩, 29), (⟨"CreaseFlatModel", "isUp", "(II)Z"⟩, 29), (⟨"CreaseFlatModel", "isOneSide", "(II)Z"⟩, 29), (⟨"CreaseFlatModel", "isFour", "(II)Z"⟩, 29), (⟨"CreaseFlatModel", "isWithin", "(II)Z"⟩, 29), (⟨"CreaseFlatModel", "number", "()J"⟩, 29), (⟨"CreaseFlatModel", "isBetween", "(II)Z"⟩, 29)]
theorem lw_r3 : ∀ q ∈ lw_privs_3, lw_okq q := List.forall_mem_cons.mpr ⟨lw_p32, List.forall_mem_cons.mpr ⟨lw_p33, List.forall_mem_cons.mpr ⟨lw_p34, List.forall_mem_cons.mpr ⟨lw_p35, List.forall_mem_cons.mpr ⟨lw_p36, List.forall_mem_cons.mpr ⟨lw_p37, List.forall_mem_cons.mpr ⟨lw_p38, List.forall_mem_cons.mpr ⟨lw_p39, List.forall_mem_cons.mpr ⟨lw_p40, List.forall_mem_cons.mpr ⟨lw_p41, List.forall_mem_cons.mpr ⟨lw_p42, List.forall_mem_cons.mpr ⟨lw_p43, List.forall_mem_cons.mpr ⟨lw_p44, List.forall_mem_cons.mpr ⟨lw_p45, List.forall_mem_cons.mpr ⟨lw_p46, List.forall_mem_cons.mpr ⟨lw_p47, fun _ h => absurd h List.not_mem_nil⟩⟩⟩⟩⟩⟩⟩⟩⟩⟩⟩⟩⟩⟩⟩⟩
theorem lw_p48 : lw_okq (⟨"CreaseFlatModel", "isAllowed", "(I)Z"⟩, 29) := ⟨⟨by decide +kernel, by decide +kernel⟩, List.mem_of_getElem? (i := 604) (by decide +kernel), List.mem_of_getElem? (i := 864) (by decide +kernel), List.mem_of_getElem? (i := 865) (by decide +kernel)⟩
theorem lw_p49 : lw_okq (⟨"CreaseFlatModel", "gapsOf", "(IZ)I"⟩, 29) := ⟨⟨by decide +kernel, by decide +kernel⟩, List.mem_of_getElem? (i := 604) (by decide +kernel), List.mem_of_getElem? (i := 876) (by decide +kernel), List.mem_of_getElem? (i := 877) (by decide +kernel)⟩
theorem lw_p50 : lw_okq (⟨"CreaseFlatModel", "stateOf", "(II)I"⟩, 29) := ⟨⟨by decide +kernel, by decide +kernel⟩, List.mem_of_getElem? (i := 604) (by decide +kernel), List.mem_of_getElem? (i := 880) (by decide +kernel), List.mem_of_getElem? (i := 881) (by decide +kernel)⟩
theorem lw_p51 : lw_okq (⟨"CreaseFlatModel", "best", "(IIIIIZ)I"⟩, 29) := ⟨⟨by decide +kernel, by decide +kernel⟩, List.mem_of_getElem? (i := 604) (by decide +kernel), List.mem_of_getElem? (i := 884) (by decide +kernel), List.mem_of_getElem? (i := 885) (by decide +kernel)⟩
theorem lw_p52 : lw_okq (⟨"CreaseFlatModel", "liesAt", "(III)I"⟩, 29) := ⟨⟨by decide +kernel, by decide +kernel⟩, List.mem_of_getElem? (i := 604) (by decide +kernel), List.mem_of_getElem? (i := 888) (by decide +kernel), List.mem_of_getElem? (i := 889) (by decide +kernel)⟩
theorem lw_p53 : lw_okq (⟨"CreaseFlatModel", "lengthOf", "(II)I"⟩, 29) := ⟨⟨by decide +kernel, by decide +kernel⟩, List.mem_of_getElem? (i := 604) (by decide +kernel), List.mem_of_getElem? (i := 895) (by decide +kernel), List.mem_of_getElem? (i := 896) (by decide +kernel)⟩
theorem lw_p54 : lw_okq (⟨"CreaseFlatModel", "done", "(IIII)I"⟩, 29) := ⟨⟨by decide +kernel, by decide +kernel⟩, List.mem_of_getElem? (i := 604) (by decide +kernel), List.mem_of_getElem? (i := 899) (by decide +kernel), List.mem_of_getElem? (i := 900) (by decide +kernel)⟩
theorem lw_p55 : lw_okq (⟨"CreaseFlatModel", "creasesIn", "(IIZ)I"⟩, 29) := ⟨⟨by decide +kernel, by decide +kernel⟩, List.mem_of_getElem? (i := 604) (by decide +kernel), List.mem_of_getElem? (i := 911) (by decide +kernel), List.mem_of_getElem? (i := 912) (by decide +kernel)⟩
def lw_privs_4 : List (MethodName × Nat) := [(⟨"CreaseFlatModel", "isAllowed", "(I)Z"⟩, 29), (⟨"CreaseFlatModel", "gapsOf", "(IZ)I"⟩, 29), (⟨"CreaseFlatModel", "stateOf", "(II)I"⟩, 29), (⟨"CreaseFlatModel", "best", "(IIIIIZ)I"⟩, 29), (⟨"CreaseFlatModel", "liesAt", "(III)I"⟩, 29), (⟨"CreaseFlatModel", "lengthOf", "(II)I"⟩, 29), (⟨"CreaseFlatModel", "done", "(IIII)I"⟩, 29), (⟨"CreaseFlatModel", "creasesIn", "(IIZ)I"⟩, 29)]
theorem lw_r4 : ∀ q ∈ lw_privs_4, lw_okq q := List.forall_mem_cons.mpr ⟨lw_p48, List.forall_mem_cons.mpr ⟨lw_p49, List.forall_mem_cons.mpr ⟨lw_p50, List.forall_mem_cons.mpr ⟨lw_p51, List.forall_mem_cons.mpr ⟨lw_p52, List.forall_mem_cons.mpr ⟨lw_p53, List.forall_mem_cons.mpr ⟨lw_p54, List.forall_mem_cons.mpr ⟨lw_p55, fun _ h => absurd h List.not_mem_nil⟩⟩⟩⟩⟩⟩⟩⟩
def lw_privs : List (MethodName × Nat) := lw_privs_1 ++ (lw_privs_2 ++ (lw_privs_3 ++ (lw_privs_4)))
def lw_tbl : List Cond := k2_sels lw_privs ++ tables_1
theorem lw_privs_ok : ∀ q ∈ lw_privs, lw_okq q := by
  show ∀ q ∈ lw_privs_1 ++ (lw_privs_2 ++ (lw_privs_3 ++ (lw_privs_4))), lw_okq q
  exact List.forall_mem_append.mpr ⟨lw_r1, List.forall_mem_append.mpr ⟨lw_r2, List.forall_mem_append.mpr ⟨lw_r3, lw_r4⟩⟩⟩
end
section
/-! ===== BEGIN printed: names, fields, word lists, decode rows ===== -/
def RX0 : String := "CreaseFlat$Lay"
def TX0 : u_T := fun k => match k with
  | 0 => ("CreaseFlat$Lay", "folded", "I", false)
  | 1 => ("CreaseFlat$Lay", "edges", "[[I", true)
  | _ => ("CreaseFlat$Lay", "turns", "[[I", true)
def tyX0 : Nat → FieldType := fun k => match k with
  | 0 => .int
  | 1 => .array (.array .int)
  | _ => .array (.array .int)
abbrev wsX00 : List Cond := u_ws RX0 TX0 3
theorem nmX0 : ∀ a, a < 3 → ∀ b, b < 3 → a ≠ b → (TX0 a).2.1 ≠ (TX0 b).2.1 := by decide +kernel
theorem tyX0_ok : ∀ k, k < 3 → parseFieldDescriptor (TX0 k).2.2.1 = some (tyX0 k) := by decide +kernel
abbrev cX0_init : ByteArray := prog_2_method_1_code
def yX0_init : MethodName := ⟨RX0, "<init>", "()V"⟩
abbrev cX0_put : ByteArray := prog_2_method_2_code
def yX0_put : MethodName := ⟨RX0, "put", "(LCreaseFlat$Paper;I)V"⟩
abbrev cX0_bands : ByteArray := prog_2_method_3_code
def yX0_bands : MethodName := ⟨RX0, "bands", "(LCreaseFlat$Paper;I)I"⟩
abbrev cX0_lineBehind : ByteArray := prog_2_method_4_code
def yX0_lineBehind : MethodName := ⟨RX0, "lineBehind", "(LCreaseFlat$Paper;II)I"⟩
abbrev cX0_isFrontUp : ByteArray := prog_2_method_5_code
def yX0_isFrontUp : MethodName := ⟨RX0, "isFrontUp", "(LCreaseFlat$Paper;I)Z"⟩
abbrev cX0_linesFoldedBy : ByteArray := prog_2_method_6_code
def yX0_linesFoldedBy : MethodName := ⟨RX0, "linesFoldedBy", "(LCreaseFlat$Paper;I)I"⟩
abbrev cX0_unfoldedAt : ByteArray := prog_2_method_7_code
def yX0_unfoldedAt : MethodName := ⟨RX0, "unfoldedAt", "(LCreaseFlat$Paper;II)I"⟩
abbrev cX0_isWithinOne : ByteArray := prog_2_method_8_code
def yX0_isWithinOne : MethodName := ⟨RX0, "isWithinOne", "(LCreaseFlat$Paper;II)Z"⟩
abbrev cX0_marksAllow : ByteArray := prog_2_method_9_code
def yX0_marksAllow : MethodName := ⟨RX0, "marksAllow", "(LCreaseFlat$Paper;IZ)Z"⟩
def RX1 : String := "CreaseFlat$Paper"
def TX1 : u_T := fun k => match k with
  | 0 => ("CreaseFlat$Paper", "kind", "I", true)
  | 1 => ("CreaseFlat$Paper", "rows", "I", true)
  | 2 => ("CreaseFlat$Paper", "columns", "I", true)
  | 3 => ("CreaseFlat$Paper", "faces", "I", true)
  | 4 => ("CreaseFlat$Paper", "creases", "I", false)
  | 5 => ("CreaseFlat$Paper", "rowOf", "[I", true)
  | 6 => ("CreaseFlat$Paper", "columnOf", "[I", true)
  | 7 => ("CreaseFlat$Paper", "lengths", "[I", true)
  | 8 => ("CreaseFlat$Paper", "edges", "[I", true)
  | 9 => ("CreaseFlat$Paper", "firsts", "[I", true)
  | 10 => ("CreaseFlat$Paper", "seconds", "[I", true)
  | 11 => ("CreaseFlat$Paper", "lineOf", "[I", true)
  | 12 => ("CreaseFlat$Paper", "marks", "[I", true)
  | 13 => ("CreaseFlat$Paper", "places", "[I", true)
  | 14 => ("CreaseFlat$Paper", "through", "[I", true)
  | 15 => ("CreaseFlat$Paper", "across", "[I", true)
  | 16 => ("CreaseFlat$Paper", "touching", "[I", true)
  | _ => ("CreaseFlat$Paper", "folded", "I", false)
def tyX1 : Nat → FieldType := fun k => match k with
  | 0 => .int
  | 1 => .int
  | 2 => .int
  | 3 => .int
  | 4 => .int
  | 5 => .array .int
  | 6 => .array .int
  | 7 => .array .int
  | 8 => .array .int
  | 9 => .array .int
  | 10 => .array .int
  | 11 => .array .int
  | 12 => .array .int
  | 13 => .array .int
  | 14 => .array .int
  | 15 => .array .int
  | 16 => .array .int
  | _ => .int
abbrev wsX10 : List Cond := u_ws RX1 TX1 18
theorem nmX1 : ∀ a, a < 18 → ∀ b, b < 18 → a ≠ b → (TX1 a).2.1 ≠ (TX1 b).2.1 := by decide +kernel
theorem tyX1_ok : ∀ k, k < 18 → parseFieldDescriptor (TX1 k).2.2.1 = some (tyX1 k) := by decide +kernel
abbrev cX1_init : ByteArray := prog_3_method_1_code
def yX1_init : MethodName := ⟨RX1, "<init>", "(III)V"⟩
abbrev cX1_joinFaces : ByteArray := prog_3_method_2_code
def yX1_joinFaces : MethodName := ⟨RX1, "joinFaces", "()V"⟩
abbrev cX1_join : ByteArray := prog_3_method_3_code
def yX1_join : MethodName := ⟨RX1, "join", "(III)V"⟩
abbrev cX1_measure : ByteArray := prog_3_method_4_code
def yX1_measure : MethodName := ⟨RX1, "measure", "()V"⟩
abbrev cX1_sideOf : ByteArray := prog_3_method_5_code
def yX1_sideOf : MethodName := ⟨RX1, "sideOf", "(I)I"⟩
abbrev cX1_facesOver : ByteArray := prog_3_method_6_code
def yX1_facesOver : MethodName := ⟨RX1, "facesOver", "(I)I"⟩
abbrev cX1_rivalsOf : ByteArray := prog_3_method_7_code
def yX1_rivalsOf : MethodName := ⟨RX1, "rivalsOf", "(I)I"⟩
abbrev cX1_onOneSide : ByteArray := prog_3_method_8_code
def yX1_onOneSide : MethodName := ⟨RX1, "onOneSide", "(II)Z"⟩
abbrev cX1_haveFourFaces : ByteArray := prog_3_method_9_code
def yX1_haveFourFaces : MethodName := ⟨RX1, "haveFourFaces", "(II)Z"⟩
abbrev cX1_hasFace : ByteArray := prog_3_method_10_code
def yX1_hasFace : MethodName := ⟨RX1, "hasFace", "(I)Z"⟩
abbrev cX1_hasCrease : ByteArray := prog_3_method_11_code
def yX1_hasCrease : MethodName := ⟨RX1, "hasCrease", "(I)Z"⟩
abbrev cX1_isFrontUp : ByteArray := prog_3_method_12_code
def yX1_isFrontUp : MethodName := ⟨RX1, "isFrontUp", "(I)Z"⟩
abbrev cX1_isUneven : ByteArray := prog_3_method_13_code
def yX1_isUneven : MethodName := ⟨RX1, "isUneven", "()Z"⟩
abbrev cX1_marked : ByteArray := prog_3_method_14_code
def yX1_marked : MethodName := ⟨RX1, "marked", "(I)I"⟩
abbrev cX1_becomes : ByteArray := prog_3_method_15_code
def yX1_becomes : MethodName := ⟨RX1, "becomes", "(I[I)I"⟩
abbrev cX1_valleysIn : ByteArray := prog_3_method_16_code
def yX1_valleysIn : MethodName := ⟨RX1, "valleysIn", "([I)I"⟩
abbrev cX1_brokenMark : ByteArray := prog_3_method_17_code
def yX1_brokenMark : MethodName := ⟨RX1, "brokenMark", "([I)I"⟩
abbrev cX1_brokenThrough : ByteArray := prog_3_method_18_code
def yX1_brokenThrough : MethodName := ⟨RX1, "brokenThrough", "([I)I"⟩
abbrev cX1_brokenAcross : ByteArray := prog_3_method_19_code
def yX1_brokenAcross : MethodName := ⟨RX1, "brokenAcross", "([I)I"⟩
abbrev cX1_liesWithin : ByteArray := prog_3_method_20_code
def yX1_liesWithin : MethodName := ⟨RX1, "liesWithin", "(II[I)Z"⟩
abbrev cX1_isBetween : ByteArray := prog_3_method_21_code
def yX1_isBetween : MethodName := ⟨RX1, "isBetween", "(III)Z"⟩
abbrev cX1_allLines : ByteArray := prog_3_method_22_code
def yX1_allLines : MethodName := ⟨RX1, "allLines", "()I"⟩
abbrev cX1_creasesOn : ByteArray := prog_3_method_23_code
def yX1_creasesOn : MethodName := ⟨RX1, "creasesOn", "(I)I"⟩
def RX2 : String := "CreaseFlat$Pile"
def TX2 : u_T := fun k => match k with
  | 0 => ("CreaseFlat$Pile", "paper", "LCreaseFlat$Paper;", false)
  | 1 => ("CreaseFlat$Pile", "stack", "[I", true)
  | 2 => ("CreaseFlat$Pile", "heights", "[I", true)
  | 3 => ("CreaseFlat$Pile", "size", "I", false)
  | 4 => ("CreaseFlat$Pile", "inPile", "I", false)
  | 5 => ("CreaseFlat$Pile", "below", "[I", true)
  | 6 => ("CreaseFlat$Pile", "demanding", "I", false)
  | 7 => ("CreaseFlat$Pile", "open", "[I", true)
  | 8 => ("CreaseFlat$Pile", "untried", "[I", true)
  | _ => ("CreaseFlat$Pile", "begun", "Z", false)
def tyX2 : Nat → FieldType := fun k => match k with
  | 0 => .object "CreaseFlat$Paper"
  | 1 => .array .int
  | 2 => .array .int
  | 3 => .int
  | 4 => .int
  | 5 => .array .int
  | 6 => .int
  | 7 => .array .int
  | 8 => .array .int
  | _ => .boolean
abbrev wsX20 : List Cond := u_ws RX2 TX2 10
theorem nmX2 : ∀ a, a < 10 → ∀ b, b < 10 → a ≠ b → (TX2 a).2.1 ≠ (TX2 b).2.1 := by decide +kernel
theorem tyX2_ok : ∀ k, k < 10 → parseFieldDescriptor (TX2 k).2.2.1 = some (tyX2 k) := by decide +kernel
abbrev cX2_init : ByteArray := prog_4_method_1_code
def yX2_init : MethodName := ⟨RX2, "<init>", "()V"⟩
abbrev cX2_begin : ByteArray := prog_4_method_2_code
def yX2_begin : MethodName := ⟨RX2, "begin", "(LCreaseFlat$Paper;)V"⟩
abbrev cX2_beginWith : ByteArray := prog_4_method_3_code
def yX2_beginWith : MethodName := ⟨RX2, "beginWith", "(LCreaseFlat$Paper;I)V"⟩
abbrev cX2_demandTurn : ByteArray := prog_4_method_4_code
def yX2_demandTurn : MethodName := ⟨RX2, "demandTurn", "(II)V"⟩
abbrev cX2_demandBelow : ByteArray := prog_4_method_5_code
def yX2_demandBelow : MethodName := ⟨RX2, "demandBelow", "(II)V"⟩
abbrev cX2_next : ByteArray := prog_4_method_6_code
def yX2_next : MethodName := ⟨RX2, "next", "()Z"⟩
abbrev cX2_asNumber : ByteArray := prog_4_method_7_code
def yX2_asNumber : MethodName := ⟨RX2, "asNumber", "()J"⟩
abbrev cX2_demandsClash : ByteArray := prog_4_method_8_code
def yX2_demandsClash : MethodName := ⟨RX2, "demandsClash", "(LCreaseFlat$Paper;)Z"⟩
abbrev cX2_leastUntried : ByteArray := prog_4_method_9_code
def yX2_leastUntried : MethodName := ⟨RX2, "leastUntried", "()I"⟩
abbrev cX2_put : ByteArray := prog_4_method_10_code
def yX2_put : MethodName := ⟨RX2, "put", "(LCreaseFlat$Paper;I)V"⟩
abbrev cX2_takeOff : ByteArray := prog_4_method_11_code
def yX2_takeOff : MethodName := ⟨RX2, "takeOff", "()V"⟩
abbrev cX2_candidates : ByteArray := prog_4_method_12_code
def yX2_candidates : MethodName := ⟨RX2, "candidates", "(LCreaseFlat$Paper;)I"⟩
abbrev cX2_readyAmong : ByteArray := prog_4_method_13_code
def yX2_readyAmong : MethodName := ⟨RX2, "readyAmong", "(LCreaseFlat$Paper;I)I"⟩
abbrev cX2_barredFromClosing : ByteArray := prog_4_method_14_code
def yX2_barredFromClosing : MethodName := ⟨RX2, "barredFromClosing", "(LCreaseFlat$Paper;I)I"⟩
def RX3 : String := "CreaseFlat$Ways"
def TX3 : u_T := fun k => match k with
  | 0 => ("CreaseFlat$Ways", "fewest", "[I", true)
  | 1 => ("CreaseFlat$Ways", "firstSteps", "[I", true)
  | _ => ("CreaseFlat$Ways", "nexts", "[I", true)
def tyX3 : Nat → FieldType := fun k => match k with
  | 0 => .array .int
  | 1 => .array .int
  | _ => .array .int
abbrev wsX30 : List Cond := u_ws RX3 TX3 3
theorem nmX3 : ∀ a, a < 3 → ∀ b, b < 3 → a ≠ b → (TX3 a).2.1 ≠ (TX3 b).2.1 := by decide +kernel
theorem tyX3_ok : ∀ k, k < 3 → parseFieldDescriptor (TX3 k).2.2.1 = some (tyX3 k) := by decide +kernel
abbrev cX3_init : ByteArray := prog_5_method_1_code
def yX3_init : MethodName := ⟨RX3, "<init>", "()V"⟩
abbrev cX3_explore : ByteArray := prog_5_method_2_code
def yX3_explore : MethodName := ⟨RX3, "explore", "(LCreaseFlat$Paper;LCreaseFlat$Lay;)V"⟩
abbrev cX3_tryLines : ByteArray := prog_5_method_3_code
def yX3_tryLines : MethodName := ⟨RX3, "tryLines", "(LCreaseFlat$Paper;IILCreaseFlat$Lay;)V"⟩
abbrev cX3_tryStep : ByteArray := prog_5_method_4_code
def yX3_tryStep : MethodName := ⟨RX3, "tryStep", "(LCreaseFlat$Paper;IILCreaseFlat$Lay;)V"⟩
abbrev cX3_trace : ByteArray := prog_5_method_5_code
def yX3_trace : MethodName := ⟨RX3, "trace", "(I[I)I"⟩
def RX4 : String := "CreaseFlat"
def TX4 : u_T := fun k => match k with
  | 0 => ("CreaseFlat", "papers", "[LCreaseFlat$Paper;", true)
  | 1 => ("CreaseFlat", "paperCount", "I", false)
  | 2 => ("CreaseFlat", "pile", "LCreaseFlat$Pile;", true)
  | 3 => ("CreaseFlat", "otherPile", "LCreaseFlat$Pile;", true)
  | 4 => ("CreaseFlat", "toldPaper", "LCreaseFlat$Paper;", false)
  | 5 => ("CreaseFlat", "toldFaces", "[I", true)
  | 6 => ("CreaseFlat", "toldHeights", "[I", true)
  | 7 => ("CreaseFlat", "readHeights", "[I", true)
  | 8 => ("CreaseFlat", "met", "[J", true)
  | 9 => ("CreaseFlat", "clashing", "[I", true)
  | 10 => ("CreaseFlat", "clashCount", "I", false)
  | 11 => ("CreaseFlat", "lay", "LCreaseFlat$Lay;", true)
  | 12 => ("CreaseFlat", "ways", "LCreaseFlat$Ways;", true)
  | 13 => ("CreaseFlat", "toldSteps", "[I", true)
  | _ => ("CreaseFlat", "stepCount", "I", false)
def tyX4 : Nat → FieldType := fun k => match k with
  | 0 => .array (.object "CreaseFlat$Paper")
  | 1 => .int
  | 2 => .object "CreaseFlat$Pile"
  | 3 => .object "CreaseFlat$Pile"
  | 4 => .object "CreaseFlat$Paper"
  | 5 => .array .int
  | 6 => .array .int
  | 7 => .array .int
  | 8 => .array .long
  | 9 => .array .int
  | 10 => .int
  | 11 => .object "CreaseFlat$Lay"
  | 12 => .object "CreaseFlat$Ways"
  | 13 => .array .int
  | _ => .int
abbrev wsX40 : List Cond := u_ws RX4 TX4 15
theorem nmX4 : ∀ a, a < 15 → ∀ b, b < 15 → a ≠ b → (TX4 a).2.1 ≠ (TX4 b).2.1 := by decide +kernel
theorem tyX4_ok : ∀ k, k < 15 → parseFieldDescriptor (TX4 k).2.2.1 = some (tyX4 k) := by decide +kernel
abbrev cX4_init : ByteArray := prog_1_method_1_code
def yX4_init : MethodName := ⟨RX4, "<init>", "()V"⟩
abbrev cX4_strip : ByteArray := prog_1_method_2_code
def yX4_strip : MethodName := ⟨RX4, "strip", "(I)I"⟩
abbrev cX4_corner : ByteArray := prog_1_method_3_code
def yX4_corner : MethodName := ⟨RX4, "corner", "(I)I"⟩
abbrev cX4_map : ByteArray := prog_1_method_4_code
def yX4_map : MethodName := ⟨RX4, "map", "(II)I"⟩
abbrev cX4_length : ByteArray := prog_1_method_5_code
def yX4_length : MethodName := ⟨RX4, "length", "(III)I"⟩
abbrev cX4_mark : ByteArray := prog_1_method_6_code
def yX4_mark : MethodName := ⟨RX4, "mark", "(III)I"⟩
abbrev cX4_about : ByteArray := prog_1_method_7_code
def yX4_about : MethodName := ⟨RX4, "about", "(II)I"⟩
abbrev cX4_crease : ByteArray := prog_1_method_8_code
def yX4_crease : MethodName := ⟨RX4, "crease", "(III)I"⟩
abbrev cX4_judge : ByteArray := prog_1_method_9_code
def yX4_judge : MethodName := ⟨RX4, "judge", "(I)I"⟩
abbrev cX4_layer : ByteArray := prog_1_method_10_code
def yX4_layer : MethodName := ⟨RX4, "layer", "(I)I"⟩
abbrev cX4_turned : ByteArray := prog_1_method_11_code
def yX4_turned : MethodName := ⟨RX4, "turned", "(I)I"⟩
abbrev cX4_orders : ByteArray := prog_1_method_12_code
def yX4_orders : MethodName := ⟨RX4, "orders", "(I)I"⟩
abbrev cX4_order : ByteArray := prog_1_method_13_code
def yX4_order : MethodName := ⟨RX4, "order", "(II)J"⟩
abbrev cX4_check : ByteArray := prog_1_method_14_code
def yX4_check : MethodName := ⟨RX4, "check", "(IJ)I"⟩
abbrev cX4_forced : ByteArray := prog_1_method_15_code
def yX4_forced : MethodName := ⟨RX4, "forced", "(II)I"⟩
abbrev cX4_above : ByteArray := prog_1_method_16_code
def yX4_above : MethodName := ⟨RX4, "above", "(III)I"⟩
abbrev cX4_alike : ByteArray := prog_1_method_17_code
def yX4_alike : MethodName := ⟨RX4, "alike", "(II)I"⟩
abbrev cX4_foldings : ByteArray := prog_1_method_18_code
def yX4_foldings : MethodName := ⟨RX4, "foldings", "(I)I"⟩
abbrev cX4_clash : ByteArray := prog_1_method_19_code
def yX4_clash : MethodName := ⟨RX4, "clash", "(I)I"⟩
abbrev cX4_inClash : ByteArray := prog_1_method_20_code
def yX4_inClash : MethodName := ⟨RX4, "inClash", "(I)I"⟩
abbrev cX4_simple : ByteArray := prog_1_method_21_code
def yX4_simple : MethodName := ⟨RX4, "simple", "(I)I"⟩
abbrev cX4_step : ByteArray := prog_1_method_22_code
def yX4_step : MethodName := ⟨RX4, "step", "(I)I"⟩
abbrev cX4_fold : ByteArray := prog_1_method_23_code
def yX4_fold : MethodName := ⟨RX4, "fold", "(II)I"⟩
abbrev cX4_flatten : ByteArray := prog_1_method_24_code
def yX4_flatten : MethodName := ⟨RX4, "flatten", "(I)I"⟩
abbrev cX4_lies : ByteArray := prog_1_method_25_code
def yX4_lies : MethodName := ⟨RX4, "lies", "(III)I"⟩
abbrev cX4_addPaper : ByteArray := prog_1_method_26_code
def yX4_addPaper : MethodName := ⟨RX4, "addPaper", "(III)I"⟩
abbrev cX4_find : ByteArray := prog_1_method_27_code
def yX4_find : MethodName := ⟨RX4, "find", "(I)LCreaseFlat$Paper;"⟩
abbrev cX4_has : ByteArray := prog_1_method_28_code
def yX4_has : MethodName := ⟨RX4, "has", "(II)Z"⟩
abbrev cX4_readOrder : ByteArray := prog_1_method_29_code
def yX4_readOrder : MethodName := ⟨RX4, "readOrder", "(IJ)Z"⟩
abbrev cX4_canBecome : ByteArray := prog_1_method_30_code
def yX4_canBecome : MethodName := ⟨RX4, "canBecome", "(LCreaseFlat$Paper;II)Z"⟩
abbrev cX4_canLieBelow : ByteArray := prog_1_method_31_code
def yX4_canLieBelow : MethodName := ⟨RX4, "canLieBelow", "(LCreaseFlat$Paper;II)Z"⟩
abbrev cX4_allowsSome : ByteArray := prog_1_method_32_code
def yX4_allowsSome : MethodName := ⟨RX4, "allowsSome", "(LCreaseFlat$Paper;I)Z"⟩
abbrev cX4_allowTheSame : ByteArray := prog_1_method_33_code
def yX4_allowTheSame : MethodName := ⟨RX4, "allowTheSame", "(LCreaseFlat$Paper;LCreaseFlat$Paper;)Z"⟩
abbrev cX4_isNew : ByteArray := prog_1_method_34_code
def yX4_isNew : MethodName := ⟨RX4, "isNew", "(I)Z"⟩
def RX5 : String := "CreaseFlatModel"
def TX5 : u_T := fun k => match k with
  | 0 => ("CreaseFlatModel", "papers", "I", false)
  | 1 => ("CreaseFlatModel", "kind", "[I", true)
  | 2 => ("CreaseFlatModel", "faces", "[I", true)
  | 3 => ("CreaseFlatModel", "rows", "[I", true)
  | 4 => ("CreaseFlatModel", "columns", "[I", true)
  | 5 => ("CreaseFlatModel", "creases", "[I", true)
  | 6 => ("CreaseFlatModel", "lengths", "[I", true)
  | 7 => ("CreaseFlatModel", "first", "[I", true)
  | 8 => ("CreaseFlatModel", "second", "[I", true)
  | 9 => ("CreaseFlatModel", "marks", "[I", true)
  | 10 => ("CreaseFlatModel", "gaps", "[I", true)
  | 11 => ("CreaseFlatModel", "rowGaps", "[I", true)
  | 12 => ("CreaseFlatModel", "paper", "I", false)
  | 13 => ("CreaseFlatModel", "begun", "Z", false)
  | 14 => ("CreaseFlatModel", "now", "[I", true)
  | 15 => ("CreaseFlatModel", "laid", "I", false)
  | 16 => ("CreaseFlatModel", "height", "[I", true)
  | 17 => ("CreaseFlatModel", "place", "[I", true)
  | 18 => ("CreaseFlatModel", "toldPaper", "I", false)
  | 19 => ("CreaseFlatModel", "told", "[I", true)
  | 20 => ("CreaseFlatModel", "keptNow", "[I", true)
  | 21 => ("CreaseFlatModel", "keptHeight", "[I", true)
  | 22 => ("CreaseFlatModel", "seen", "[Z", true)
  | 23 => ("CreaseFlatModel", "clashing", "[I", true)
  | 24 => ("CreaseFlatModel", "clashes", "I", false)
  | 25 => ("CreaseFlatModel", "keptMarks", "[I", true)
  | 26 => ("CreaseFlatModel", "least", "[I", true)
  | 27 => ("CreaseFlatModel", "steps", "[I", true)
  | _ => ("CreaseFlatModel", "stepCount", "I", false)
def tyX5 : Nat → FieldType := fun k => match k with
  | 0 => .int
  | 1 => .array .int
  | 2 => .array .int
  | 3 => .array .int
  | 4 => .array .int
  | 5 => .array .int
  | 6 => .array .int
  | 7 => .array .int
  | 8 => .array .int
  | 9 => .array .int
  | 10 => .array .int
  | 11 => .array .int
  | 12 => .int
  | 13 => .boolean
  | 14 => .array .int
  | 15 => .int
  | 16 => .array .int
  | 17 => .array .int
  | 18 => .int
  | 19 => .array .int
  | 20 => .array .int
  | 21 => .array .int
  | 22 => .array .boolean
  | 23 => .array .int
  | 24 => .int
  | 25 => .array .int
  | 26 => .array .int
  | 27 => .array .int
  | _ => .int
abbrev wsX50 : List Cond := u_ws RX5 TX5 29
theorem nmX5 : ∀ a, a < 29 → ∀ b, b < 29 → a ≠ b → (TX5 a).2.1 ≠ (TX5 b).2.1 := by decide +kernel
theorem tyX5_ok : ∀ k, k < 29 → parseFieldDescriptor (TX5 k).2.2.1 = some (tyX5 k) := by decide +kernel
abbrev cX5_init : ByteArray := prog_7_method_1_code
def yX5_init : MethodName := ⟨RX5, "<init>", "()V"⟩
abbrev cX5_lesser : ByteArray := prog_7_method_2_code
def yX5_lesser : MethodName := ⟨RX5, "lesser", "(II)I"⟩
abbrev cX5_greater : ByteArray := prog_7_method_3_code
def yX5_greater : MethodName := ⟨RX5, "greater", "(II)I"⟩
abbrev cX5_bits : ByteArray := prog_7_method_4_code
def yX5_bits : MethodName := ⟨RX5, "bits", "(I)I"⟩
abbrev cX5_has : ByteArray := prog_7_method_5_code
def yX5_has : MethodName := ⟨RX5, "has", "(I)Z"⟩
abbrev cX5_hasFace : ByteArray := prog_7_method_6_code
def yX5_hasFace : MethodName := ⟨RX5, "hasFace", "(II)Z"⟩
abbrev cX5_hasCrease : ByteArray := prog_7_method_7_code
def yX5_hasCrease : MethodName := ⟨RX5, "hasCrease", "(II)Z"⟩
abbrev cX5_add : ByteArray := prog_7_method_8_code
def yX5_add : MethodName := ⟨RX5, "add", "(II)I"⟩
abbrev cX5_addCrease : ByteArray := prog_7_method_9_code
def yX5_addCrease : MethodName := ⟨RX5, "addCrease", "(III)V"⟩
abbrev cX5_strip : ByteArray := prog_7_method_10_code
def yX5_strip : MethodName := ⟨RX5, "strip", "(I)I"⟩
abbrev cX5_corner : ByteArray := prog_7_method_11_code
def yX5_corner : MethodName := ⟨RX5, "corner", "(I)I"⟩
abbrev cX5_map : ByteArray := prog_7_method_12_code
def yX5_map : MethodName := ⟨RX5, "map", "(II)I"⟩
abbrev cX5_length : ByteArray := prog_7_method_13_code
def yX5_length : MethodName := ⟨RX5, "length", "(III)I"⟩
abbrev cX5_mark : ByteArray := prog_7_method_14_code
def yX5_mark : MethodName := ⟨RX5, "mark", "(III)I"⟩
abbrev cX5_uneven : ByteArray := prog_7_method_15_code
def yX5_uneven : MethodName := ⟨RX5, "uneven", "(I)I"⟩
abbrev cX5_marked : ByteArray := prog_7_method_16_code
def yX5_marked : MethodName := ⟨RX5, "marked", "(II)I"⟩
abbrev cX5_about : ByteArray := prog_7_method_17_code
def yX5_about : MethodName := ⟨RX5, "about", "(II)I"⟩
abbrev cX5_begins : ByteArray := prog_7_method_18_code
def yX5_begins : MethodName := ⟨RX5, "begins", "(II)I"⟩
abbrev cX5_placeOf : ByteArray := prog_7_method_19_code
def yX5_placeOf : MethodName := ⟨RX5, "placeOf", "(II)I"⟩
abbrev cX5_crease : ByteArray := prog_7_method_20_code
def yX5_crease : MethodName := ⟨RX5, "crease", "(III)I"⟩
abbrev cX5_isUp : ByteArray := prog_7_method_21_code
def yX5_isUp : MethodName := ⟨RX5, "isUp", "(II)Z"⟩
abbrev cX5_begin : ByteArray := prog_7_method_22_code
def yX5_begin : MethodName := ⟨RX5, "begin", "(I)V"⟩
abbrev cX5_isWithin : ByteArray := prog_7_method_23_code
def yX5_isWithin : MethodName := ⟨RX5, "isWithin", "(II)Z"⟩
abbrev cX5_isOneSide : ByteArray := prog_7_method_24_code
def yX5_isOneSide : MethodName := ⟨RX5, "isOneSide", "(II)Z"⟩
abbrev cX5_isFour : ByteArray := prog_7_method_25_code
def yX5_isFour : MethodName := ⟨RX5, "isFour", "(II)Z"⟩
abbrev cX5_markIn : ByteArray := prog_7_method_26_code
def yX5_markIn : MethodName := ⟨RX5, "markIn", "(I)I"⟩
abbrev cX5_isFine : ByteArray := prog_7_method_27_code
def yX5_isFine : MethodName := ⟨RX5, "isFine", "(I)Z"⟩
abbrev cX5_isClosed : ByteArray := prog_7_method_28_code
def yX5_isClosed : MethodName := ⟨RX5, "isClosed", "(III)Z"⟩
abbrev cX5_next : ByteArray := prog_7_method_29_code
def yX5_next : MethodName := ⟨RX5, "next", "()Z"⟩
abbrev cX5_number : ByteArray := prog_7_method_30_code
def yX5_number : MethodName := ⟨RX5, "number", "()J"⟩
abbrev cX5_judge : ByteArray := prog_7_method_31_code
def yX5_judge : MethodName := ⟨RX5, "judge", "(I)I"⟩
abbrev cX5_layer : ByteArray := prog_7_method_32_code
def yX5_layer : MethodName := ⟨RX5, "layer", "(I)I"⟩
abbrev cX5_turned : ByteArray := prog_7_method_33_code
def yX5_turned : MethodName := ⟨RX5, "turned", "(I)I"⟩
abbrev cX5_orders : ByteArray := prog_7_method_34_code
def yX5_orders : MethodName := ⟨RX5, "orders", "(I)I"⟩
abbrev cX5_order : ByteArray := prog_7_method_35_code
def yX5_order : MethodName := ⟨RX5, "order", "(II)J"⟩
abbrev cX5_check : ByteArray := prog_7_method_36_code
def yX5_check : MethodName := ⟨RX5, "check", "(IJ)I"⟩
abbrev cX5_isBetween : ByteArray := prog_7_method_37_code
def yX5_isBetween : MethodName := ⟨RX5, "isBetween", "(II)Z"⟩
abbrev cX5_forced : ByteArray := prog_7_method_38_code
def yX5_forced : MethodName := ⟨RX5, "forced", "(II)I"⟩
abbrev cX5_above : ByteArray := prog_7_method_39_code
def yX5_above : MethodName := ⟨RX5, "above", "(III)I"⟩
abbrev cX5_alike : ByteArray := prog_7_method_40_code
def yX5_alike : MethodName := ⟨RX5, "alike", "(II)I"⟩
abbrev cX5_foldings : ByteArray := prog_7_method_41_code
def yX5_foldings : MethodName := ⟨RX5, "foldings", "(I)I"⟩
abbrev cX5_isAllowed : ByteArray := prog_7_method_42_code
def yX5_isAllowed : MethodName := ⟨RX5, "isAllowed", "(I)Z"⟩
abbrev cX5_clash : ByteArray := prog_7_method_43_code
def yX5_clash : MethodName := ⟨RX5, "clash", "(I)I"⟩
abbrev cX5_inClash : ByteArray := prog_7_method_44_code
def yX5_inClash : MethodName := ⟨RX5, "inClash", "(I)I"⟩
abbrev cX5_gapsOf : ByteArray := prog_7_method_45_code
def yX5_gapsOf : MethodName := ⟨RX5, "gapsOf", "(IZ)I"⟩
abbrev cX5_lengthOf : ByteArray := prog_7_method_46_code
def yX5_lengthOf : MethodName := ⟨RX5, "lengthOf", "(II)I"⟩
abbrev cX5_goesUp : ByteArray := prog_7_method_47_code
def yX5_goesUp : MethodName := ⟨RX5, "goesUp", "(II)Z"⟩
abbrev cX5_liesAt : ByteArray := prog_7_method_48_code
def yX5_liesAt : MethodName := ⟨RX5, "liesAt", "(III)I"⟩
abbrev cX5_done : ByteArray := prog_7_method_49_code
def yX5_done : MethodName := ⟨RX5, "done", "(IIII)I"⟩
abbrev cX5_stateOf : ByteArray := prog_7_method_50_code
def yX5_stateOf : MethodName := ⟨RX5, "stateOf", "(II)I"⟩
abbrev cX5_simple : ByteArray := prog_7_method_51_code
def yX5_simple : MethodName := ⟨RX5, "simple", "(I)I"⟩
abbrev cX5_best : ByteArray := prog_7_method_52_code
def yX5_best : MethodName := ⟨RX5, "best", "(IIIIIZ)I"⟩
abbrev cX5_step : ByteArray := prog_7_method_53_code
def yX5_step : MethodName := ⟨RX5, "step", "(I)I"⟩
abbrev cX5_creasesIn : ByteArray := prog_7_method_54_code
def yX5_creasesIn : MethodName := ⟨RX5, "creasesIn", "(IIZ)I"⟩
abbrev cX5_fold : ByteArray := prog_7_method_55_code
def yX5_fold : MethodName := ⟨RX5, "fold", "(II)I"⟩
abbrev cX5_flatten : ByteArray := prog_7_method_56_code
def yX5_flatten : MethodName := ⟨RX5, "flatten", "(I)I"⟩
abbrev cX5_lies : ByteArray := prog_7_method_57_code
def yX5_lies : MethodName := ⟨RX5, "lies", "(III)I"⟩
def RJ6 : String := "java/lang/Integer"
def TJ6 : u_T := fun k => match k with
  | _ => ("", "", "", false)
def tyJ6 : Nat → FieldType := fun k => match k with
  | _ => .int
abbrev wsJ60 : List Cond := u_ws RJ6 TJ6 0
theorem nmJ6 : ∀ a, a < 0 → ∀ b, b < 0 → a ≠ b → (TJ6 a).2.1 ≠ (TJ6 b).2.1 := by decide +kernel
theorem tyJ6_ok : ∀ k, k < 0 → parseFieldDescriptor (TJ6 k).2.2.1 = some (tyJ6 k) := by decide +kernel
abbrev cJ6_bitCount_0f7a4 : ByteArray := prog_8_method_49_code
def yJ6_bitCount_0f7a4 : MethodName := ⟨RJ6, "bitCount", "(I)I"⟩
def RJ9 : String := "java/lang/Math"
def TJ9 : u_T := fun k => match k with
  | _ => ("", "", "", false)
def tyJ9 : Nat → FieldType := fun k => match k with
  | _ => .int
abbrev wsJ90 : List Cond := u_ws RJ9 TJ9 0
theorem nmJ9 : ∀ a, a < 0 → ∀ b, b < 0 → a ≠ b → (TJ9 a).2.1 ≠ (TJ9 b).2.1 := by decide +kernel
theorem tyJ9_ok : ∀ k, k < 0 → parseFieldDescriptor (TJ9 k).2.2.1 = some (tyJ9 k) := by decide +kernel
abbrev cJ9_max_7cf53 : ByteArray := prog_9_method_65_code
def yJ9_max_7cf53 : MethodName := ⟨RJ9, "max", "(II)I"⟩
abbrev cJ9_min_7cf53 : ByteArray := prog_9_method_69_code
def yJ9_min_7cf53 : MethodName := ⟨RJ9, "min", "(II)I"⟩
def RJ10 : String := "java/lang/System"
def TJ10 : u_T := fun k => match k with
  | _ => ("", "", "", false)
def tyJ10 : Nat → FieldType := fun k => match k with
  | _ => .int
abbrev wsJ100 : List Cond := u_ws RJ10 TJ10 0
theorem nmJ10 : ∀ a, a < 0 → ∀ b, b < 0 → a ≠ b → (TJ10 a).2.1 ≠ (TJ10 b).2.1 := by decide +kernel
theorem tyJ10_ok : ∀ k, k < 0 → parseFieldDescriptor (TJ10 k).2.2.1 = some (tyJ10 k) := by decide +kernel
def RJ7 : String := "java/util/Arrays"
def TJ7 : u_T := fun k => match k with
  | _ => ("", "", "", false)
def tyJ7 : Nat → FieldType := fun k => match k with
  | _ => .int
abbrev wsJ70 : List Cond := u_ws RJ7 TJ7 0
theorem nmJ7 : ∀ a, a < 0 → ∀ b, b < 0 → a ≠ b → (TJ7 a).2.1 ≠ (TJ7 b).2.1 := by decide +kernel
theorem tyJ7_ok : ∀ k, k < 0 → parseFieldDescriptor (TJ7 k).2.2.1 = some (tyJ7 k) := by decide +kernel
abbrev cJ7_fill_d0a16 : ByteArray := prog_11_method_101_code
def yJ7_fill_d0a16 : MethodName := ⟨RJ7, "fill", "([JJ)V"⟩
abbrev cJ7_fill_53178 : ByteArray := prog_11_method_103_code
def yJ7_fill_53178 : MethodName := ⟨RJ7, "fill", "([II)V"⟩
def RL : String := "CreaseFlatLaw"
abbrev cL_law : ByteArray := code
def yL_law : MethodName := ⟨RL, "law", "([I)Z"⟩
abbrev vwCl : List vw_C := [(RX0, TX0, 3), (RX1, TX1, 18), (RX2, TX2, 10), (RX3, TX3, 3), (RX4, TX4, 15), (RX5, TX5, 29)]
end
section
theorem dX0_init_0 : decode cX0_init 0 = .ok (.aload_n 0, 1) := by decide +kernel
theorem dX0_init_1 : decode cX0_init 1 = .ok (.invokespecial 3, 3) := by decide +kernel
theorem dX0_init_4 : decode cX0_init 4 = .ok (.aload_n 0, 1) := by decide +kernel
theorem dX0_init_5 : decode cX0_init 5 = .ok (.iconst 0, 1) := by decide +kernel
theorem dX0_init_6 : decode cX0_init 6 = .ok (.putfield 9, 3) := by decide +kernel
theorem dX0_init_9 : decode cX0_init 9 = .ok (.aload_n 0, 1) := by decide +kernel
theorem dX0_init_10 : decode cX0_init 10 = .ok (.iconst 2, 1) := by decide +kernel
theorem dX0_init_11 : decode cX0_init 11 = .ok (.bipush 10, 2) := by decide +kernel
theorem dX0_init_13 : decode cX0_init 13 = .ok (.multianewarray 15 2, 4) := by decide +kernel
theorem dX0_init_17 : decode cX0_init 17 = .ok (.putfield 17, 3) := by decide +kernel
theorem dX0_init_20 : decode cX0_init 20 = .ok (.aload_n 0, 1) := by decide +kernel
theorem dX0_init_21 : decode cX0_init 21 = .ok (.iconst 2, 1) := by decide +kernel
theorem dX0_init_22 : decode cX0_init 22 = .ok (.bipush 9, 2) := by decide +kernel
theorem dX0_init_24 : decode cX0_init 24 = .ok (.multianewarray 15 2, 4) := by decide +kernel
theorem dX0_init_28 : decode cX0_init 28 = .ok (.putfield 20, 3) := by decide +kernel
theorem dX0_init_31 : decode cX0_init 31 = .ok (.return_, 1) := by decide +kernel
theorem dX0_put_0 : decode cX0_put 0 = .ok (.aload_n 0, 1) := by decide +kernel
theorem dX0_put_1 : decode cX0_put 1 = .ok (.iload_n 2, 1) := by decide +kernel
theorem dX0_put_2 : decode cX0_put 2 = .ok (.putfield 9, 3) := by decide +kernel
theorem dX0_put_5 : decode cX0_put 5 = .ok (.iconst 0, 1) := by decide +kernel
theorem dX0_put_6 : decode cX0_put 6 = .ok (.istore_n 3, 1) := by decide +kernel
theorem dX0_put_7 : decode cX0_put 7 = .ok (.iload_n 3, 1) := by decide +kernel
theorem dX0_put_8 : decode cX0_put 8 = .ok (.iconst 1, 1) := by decide +kernel
theorem dX0_put_9 : decode cX0_put 9 = .ok (.if_icmp .gt 117, 3) := by decide +kernel
theorem dX0_put_12 : decode cX0_put 12 = .ok (.iconst 0, 1) := by decide +kernel
theorem dX0_put_13 : decode cX0_put 13 = .ok (.istore 4, 2) := by decide +kernel
theorem dX0_put_15 : decode cX0_put 15 = .ok (.iconst 0, 1) := by decide +kernel
theorem dX0_put_16 : decode cX0_put 16 = .ok (.istore 5, 2) := by decide +kernel
theorem dX0_put_18 : decode cX0_put 18 = .ok (.iload 5, 2) := by decide +kernel
theorem dX0_put_20 : decode cX0_put 20 = .ok (.aload_n 0, 1) := by decide +kernel
theorem dX0_put_21 : decode cX0_put 21 = .ok (.aload_n 1, 1) := by decide +kernel
theorem dX0_put_22 : decode cX0_put 22 = .ok (.iload_n 3, 1) := by decide +kernel
theorem dX0_put_23 : decode cX0_put 23 = .ok (.invokevirtual 23, 3) := by decide +kernel
theorem dX0_put_26 : decode cX0_put 26 = .ok (.if_icmp .ge 94, 3) := by decide +kernel
theorem dX0_put_29 : decode cX0_put 29 = .ok (.iload 5, 2) := by decide +kernel
theorem dX0_put_31 : decode cX0_put 31 = .ok (.ifCond .le 29, 3) := by decide +kernel
theorem dX0_put_34 : decode cX0_put 34 = .ok (.aload_n 0, 1) := by decide +kernel
theorem dX0_put_35 : decode cX0_put 35 = .ok (.getfield 9, 3) := by decide +kernel
theorem dX0_put_38 : decode cX0_put 38 = .ok (.aload_n 0, 1) := by decide +kernel
theorem dX0_put_39 : decode cX0_put 39 = .ok (.aload_n 1, 1) := by decide +kernel
theorem dX0_put_40 : decode cX0_put 40 = .ok (.iload_n 3, 1) := by decide +kernel
theorem dX0_put_41 : decode cX0_put 41 = .ok (.iload 5, 2) := by decide +kernel
theorem dX0_put_43 : decode cX0_put 43 = .ok (.iconst 1, 1) := by decide +kernel
theorem dX0_put_44 : decode cX0_put 44 = .ok (.isub, 1) := by decide +kernel
theorem dX0_put_45 : decode cX0_put 45 = .ok (.invokevirtual 27, 3) := by decide +kernel
theorem dX0_put_48 : decode cX0_put 48 = .ok (.invokestatic 31, 3) := by decide +kernel
theorem dX0_put_51 : decode cX0_put 51 = .ok (.ifCond .eq 9, 3) := by decide +kernel
theorem dX0_put_54 : decode cX0_put 54 = .ok (.iconst 1, 1) := by decide +kernel
theorem dX0_put_55 : decode cX0_put 55 = .ok (.iload 4, 2) := by decide +kernel
theorem dX0_put_57 : decode cX0_put 57 = .ok (.isub, 1) := by decide +kernel
theorem dX0_put_58 : decode cX0_put 58 = .ok (.istore 4, 2) := by decide +kernel
theorem dX0_put_60 : decode cX0_put 60 = .ok (.aload_n 1, 1) := by decide +kernel
theorem dX0_put_61 : decode cX0_put 61 = .ok (.getfield 35, 3) := by decide +kernel
theorem dX0_put_64 : decode cX0_put 64 = .ok (.iload 5, 2) := by decide +kernel
theorem dX0_put_66 : decode cX0_put 66 = .ok (.iaload, 1) := by decide +kernel
theorem dX0_put_67 : decode cX0_put 67 = .ok (.istore 6, 2) := by decide +kernel
theorem dX0_put_69 : decode cX0_put 69 = .ok (.aload_n 0, 1) := by decide +kernel
theorem dX0_put_70 : decode cX0_put 70 = .ok (.getfield 20, 3) := by decide +kernel
theorem dX0_put_73 : decode cX0_put 73 = .ok (.iload_n 3, 1) := by decide +kernel
theorem dX0_put_74 : decode cX0_put 74 = .ok (.aaload, 1) := by decide +kernel
theorem dX0_put_75 : decode cX0_put 75 = .ok (.iload 5, 2) := by decide +kernel
theorem dX0_put_77 : decode cX0_put 77 = .ok (.iload 4, 2) := by decide +kernel
theorem dX0_put_79 : decode cX0_put 79 = .ok (.iastore, 1) := by decide +kernel
theorem dX0_put_80 : decode cX0_put 80 = .ok (.aload_n 0, 1) := by decide +kernel
theorem dX0_put_81 : decode cX0_put 81 = .ok (.getfield 17, 3) := by decide +kernel
theorem dX0_put_84 : decode cX0_put 84 = .ok (.iload_n 3, 1) := by decide +kernel
theorem dX0_put_85 : decode cX0_put 85 = .ok (.aaload, 1) := by decide +kernel
theorem dX0_put_86 : decode cX0_put 86 = .ok (.iload 5, 2) := by decide +kernel
theorem dX0_put_88 : decode cX0_put 88 = .ok (.iconst 1, 1) := by decide +kernel
theorem dX0_put_89 : decode cX0_put 89 = .ok (.iadd, 1) := by decide +kernel
theorem dX0_put_90 : decode cX0_put 90 = .ok (.aload_n 0, 1) := by decide +kernel
theorem dX0_put_91 : decode cX0_put 91 = .ok (.getfield 17, 3) := by decide +kernel
theorem dX0_put_94 : decode cX0_put 94 = .ok (.iload_n 3, 1) := by decide +kernel
theorem dX0_put_95 : decode cX0_put 95 = .ok (.aaload, 1) := by decide +kernel
theorem dX0_put_96 : decode cX0_put 96 = .ok (.iload 5, 2) := by decide +kernel
theorem dX0_put_98 : decode cX0_put 98 = .ok (.iaload, 1) := by decide +kernel
theorem dX0_put_99 : decode cX0_put 99 = .ok (.iload 4, 2) := by decide +kernel
theorem dX0_put_101 : decode cX0_put 101 = .ok (.ifCond .ne 8, 3) := by decide +kernel
theorem dX0_put_104 : decode cX0_put 104 = .ok (.iload 6, 2) := by decide +kernel
theorem dX0_put_106 : decode cX0_put 106 = .ok (.goto 6, 3) := by decide +kernel
theorem dX0_put_109 : decode cX0_put 109 = .ok (.iload 6, 2) := by decide +kernel
theorem dX0_put_111 : decode cX0_put 111 = .ok (.ineg, 1) := by decide +kernel
theorem dX0_put_112 : decode cX0_put 112 = .ok (.iadd, 1) := by decide +kernel
theorem dX0_put_113 : decode cX0_put 113 = .ok (.iastore, 1) := by decide +kernel
theorem dX0_put_114 : decode cX0_put 114 = .ok (.iinc 5 1, 3) := by decide +kernel
theorem dX0_put_117 : decode cX0_put 117 = .ok (.goto (-99), 3) := by decide +kernel
theorem dX0_put_120 : decode cX0_put 120 = .ok (.iinc 3 1, 3) := by decide +kernel
theorem dX0_put_123 : decode cX0_put 123 = .ok (.goto (-116), 3) := by decide +kernel
theorem dX0_put_126 : decode cX0_put 126 = .ok (.return_, 1) := by decide +kernel
theorem dX0_bands_0 : decode cX0_bands 0 = .ok (.iload_n 2, 1) := by decide +kernel
theorem dX0_bands_1 : decode cX0_bands 1 = .ok (.ifCond .ne 10, 3) := by decide +kernel
theorem dX0_bands_4 : decode cX0_bands 4 = .ok (.aload_n 1, 1) := by decide +kernel
theorem dX0_bands_5 : decode cX0_bands 5 = .ok (.getfield 41, 3) := by decide +kernel
theorem dX0_bands_8 : decode cX0_bands 8 = .ok (.goto 7, 3) := by decide +kernel
theorem dX0_bands_11 : decode cX0_bands 11 = .ok (.aload_n 1, 1) := by decide +kernel
theorem dX0_bands_12 : decode cX0_bands 12 = .ok (.getfield 44, 3) := by decide +kernel
theorem dX0_bands_15 : decode cX0_bands 15 = .ok (.ireturn, 1) := by decide +kernel
theorem dX0_lineBehind_0 : decode cX0_lineBehind 0 = .ok (.iload_n 2, 1) := by decide +kernel
theorem dX0_lineBehind_1 : decode cX0_lineBehind 1 = .ok (.ifCond .ne 7, 3) := by decide +kernel
theorem dX0_lineBehind_4 : decode cX0_lineBehind 4 = .ok (.iload_n 3, 1) := by decide +kernel
theorem dX0_lineBehind_5 : decode cX0_lineBehind 5 = .ok (.goto 11, 3) := by decide +kernel
theorem dX0_lineBehind_8 : decode cX0_lineBehind 8 = .ok (.aload_n 1, 1) := by decide +kernel
theorem dX0_lineBehind_9 : decode cX0_lineBehind 9 = .ok (.getfield 41, 3) := by decide +kernel
theorem dX0_lineBehind_12 : decode cX0_lineBehind 12 = .ok (.iconst 1, 1) := by decide +kernel
theorem dX0_lineBehind_13 : decode cX0_lineBehind 13 = .ok (.isub, 1) := by decide +kernel
theorem dX0_lineBehind_14 : decode cX0_lineBehind 14 = .ok (.iload_n 3, 1) := by decide +kernel
theorem dX0_lineBehind_15 : decode cX0_lineBehind 15 = .ok (.iadd, 1) := by decide +kernel
theorem dX0_lineBehind_16 : decode cX0_lineBehind 16 = .ok (.ireturn, 1) := by decide +kernel
theorem dX0_isFrontUp_0 : decode cX0_isFrontUp 0 = .ok (.aload_n 0, 1) := by decide +kernel
theorem dX0_isFrontUp_1 : decode cX0_isFrontUp 1 = .ok (.getfield 20, 3) := by decide +kernel
theorem dX0_isFrontUp_4 : decode cX0_isFrontUp 4 = .ok (.iconst 0, 1) := by decide +kernel
theorem dX0_isFrontUp_5 : decode cX0_isFrontUp 5 = .ok (.aaload, 1) := by decide +kernel
theorem dX0_isFrontUp_6 : decode cX0_isFrontUp 6 = .ok (.aload_n 1, 1) := by decide +kernel
theorem dX0_isFrontUp_7 : decode cX0_isFrontUp 7 = .ok (.getfield 47, 3) := by decide +kernel
theorem dX0_isFrontUp_10 : decode cX0_isFrontUp 10 = .ok (.iload_n 2, 1) := by decide +kernel
theorem dX0_isFrontUp_11 : decode cX0_isFrontUp 11 = .ok (.iaload, 1) := by decide +kernel
theorem dX0_isFrontUp_12 : decode cX0_isFrontUp 12 = .ok (.iaload, 1) := by decide +kernel
theorem dX0_isFrontUp_13 : decode cX0_isFrontUp 13 = .ok (.aload_n 0, 1) := by decide +kernel
theorem dX0_isFrontUp_14 : decode cX0_isFrontUp 14 = .ok (.getfield 20, 3) := by decide +kernel
theorem dX0_isFrontUp_17 : decode cX0_isFrontUp 17 = .ok (.iconst 1, 1) := by decide +kernel
theorem dX0_isFrontUp_18 : decode cX0_isFrontUp 18 = .ok (.aaload, 1) := by decide +kernel
theorem dX0_isFrontUp_19 : decode cX0_isFrontUp 19 = .ok (.aload_n 1, 1) := by decide +kernel
theorem dX0_isFrontUp_20 : decode cX0_isFrontUp 20 = .ok (.getfield 50, 3) := by decide +kernel
theorem dX0_isFrontUp_23 : decode cX0_isFrontUp 23 = .ok (.iload_n 2, 1) := by decide +kernel
theorem dX0_isFrontUp_24 : decode cX0_isFrontUp 24 = .ok (.iaload, 1) := by decide +kernel
theorem dX0_isFrontUp_25 : decode cX0_isFrontUp 25 = .ok (.iaload, 1) := by decide +kernel
theorem dX0_isFrontUp_26 : decode cX0_isFrontUp 26 = .ok (.if_icmp .ne 7, 3) := by decide +kernel
theorem dX0_isFrontUp_29 : decode cX0_isFrontUp 29 = .ok (.iconst 1, 1) := by decide +kernel
theorem dX0_isFrontUp_30 : decode cX0_isFrontUp 30 = .ok (.goto 4, 3) := by decide +kernel
theorem dX0_isFrontUp_33 : decode cX0_isFrontUp 33 = .ok (.iconst 0, 1) := by decide +kernel
theorem dX0_isFrontUp_34 : decode cX0_isFrontUp 34 = .ok (.ireturn, 1) := by decide +kernel
theorem dX0_linesFoldedBy_0 : decode cX0_linesFoldedBy 0 = .ok (.iload_n 2, 1) := by decide +kernel
theorem dX0_linesFoldedBy_1 : decode cX0_linesFoldedBy 1 = .ok (.iconst 1, 1) := by decide +kernel
theorem dX0_linesFoldedBy_2 : decode cX0_linesFoldedBy 2 = .ok (.ishr, 1) := by decide +kernel
theorem dX0_linesFoldedBy_3 : decode cX0_linesFoldedBy 3 = .ok (.iconst 1, 1) := by decide +kernel
theorem dX0_linesFoldedBy_4 : decode cX0_linesFoldedBy 4 = .ok (.iand, 1) := by decide +kernel
theorem dX0_linesFoldedBy_5 : decode cX0_linesFoldedBy 5 = .ok (.istore_n 3, 1) := by decide +kernel
theorem dX0_linesFoldedBy_6 : decode cX0_linesFoldedBy 6 = .ok (.iload_n 2, 1) := by decide +kernel
theorem dX0_linesFoldedBy_7 : decode cX0_linesFoldedBy 7 = .ok (.iconst 2, 1) := by decide +kernel
theorem dX0_linesFoldedBy_8 : decode cX0_linesFoldedBy 8 = .ok (.ishr, 1) := by decide +kernel
theorem dX0_linesFoldedBy_9 : decode cX0_linesFoldedBy 9 = .ok (.istore 4, 2) := by decide +kernel
theorem dX0_linesFoldedBy_11 : decode cX0_linesFoldedBy 11 = .ok (.iload_n 2, 1) := by decide +kernel
theorem dX0_linesFoldedBy_12 : decode cX0_linesFoldedBy 12 = .ok (.iconst 1, 1) := by decide +kernel
theorem dX0_linesFoldedBy_13 : decode cX0_linesFoldedBy 13 = .ok (.iand, 1) := by decide +kernel
theorem dX0_linesFoldedBy_14 : decode cX0_linesFoldedBy 14 = .ok (.ifCond .eq 7, 3) := by decide +kernel
theorem dX0_linesFoldedBy_17 : decode cX0_linesFoldedBy 17 = .ok (.iconst 1, 1) := by decide +kernel
theorem dX0_linesFoldedBy_18 : decode cX0_linesFoldedBy 18 = .ok (.goto 4, 3) := by decide +kernel
theorem dX0_linesFoldedBy_21 : decode cX0_linesFoldedBy 21 = .ok (.iconst 0, 1) := by decide +kernel
theorem dX0_linesFoldedBy_22 : decode cX0_linesFoldedBy 22 = .ok (.istore 5, 2) := by decide +kernel
theorem dX0_linesFoldedBy_24 : decode cX0_linesFoldedBy 24 = .ok (.aload_n 0, 1) := by decide +kernel
theorem dX0_linesFoldedBy_25 : decode cX0_linesFoldedBy 25 = .ok (.aload_n 1, 1) := by decide +kernel
theorem dX0_linesFoldedBy_26 : decode cX0_linesFoldedBy 26 = .ok (.iload_n 3, 1) := by decide +kernel
theorem dX0_linesFoldedBy_27 : decode cX0_linesFoldedBy 27 = .ok (.iload 4, 2) := by decide +kernel
theorem dX0_linesFoldedBy_29 : decode cX0_linesFoldedBy 29 = .ok (.invokevirtual 53, 3) := by decide +kernel
theorem dX0_linesFoldedBy_32 : decode cX0_linesFoldedBy 32 = .ok (.istore 6, 2) := by decide +kernel
theorem dX0_linesFoldedBy_34 : decode cX0_linesFoldedBy 34 = .ok (.aload_n 0, 1) := by decide +kernel
theorem dX0_linesFoldedBy_35 : decode cX0_linesFoldedBy 35 = .ok (.aload_n 1, 1) := by decide +kernel
theorem dX0_linesFoldedBy_36 : decode cX0_linesFoldedBy 36 = .ok (.iload_n 3, 1) := by decide +kernel
theorem dX0_linesFoldedBy_37 : decode cX0_linesFoldedBy 37 = .ok (.iload 4, 2) := by decide +kernel
theorem dX0_linesFoldedBy_39 : decode cX0_linesFoldedBy 39 = .ok (.invokevirtual 56, 3) := by decide +kernel
theorem dX0_linesFoldedBy_42 : decode cX0_linesFoldedBy 42 = .ok (.ifCond .ne 15, 3) := by decide +kernel
theorem dX0_linesFoldedBy_45 : decode cX0_linesFoldedBy 45 = .ok (.aload_n 0, 1) := by decide +kernel
theorem dX0_linesFoldedBy_46 : decode cX0_linesFoldedBy 46 = .ok (.aload_n 1, 1) := by decide +kernel
theorem dX0_linesFoldedBy_47 : decode cX0_linesFoldedBy 47 = .ok (.iload 6, 2) := by decide +kernel
theorem dX0_linesFoldedBy_49 : decode cX0_linesFoldedBy 49 = .ok (.iload 5, 2) := by decide +kernel
theorem dX0_linesFoldedBy_51 : decode cX0_linesFoldedBy 51 = .ok (.invokevirtual 60, 3) := by decide +kernel
theorem dX0_linesFoldedBy_54 : decode cX0_linesFoldedBy 54 = .ok (.ifCond .ne 7, 3) := by decide +kernel
theorem dX0_linesFoldedBy_57 : decode cX0_linesFoldedBy 57 = .ok (.iconst 0, 1) := by decide +kernel
theorem dX0_linesFoldedBy_58 : decode cX0_linesFoldedBy 58 = .ok (.goto 5, 3) := by decide +kernel
theorem dX0_linesFoldedBy_61 : decode cX0_linesFoldedBy 61 = .ok (.iload 6, 2) := by decide +kernel
theorem dX0_linesFoldedBy_63 : decode cX0_linesFoldedBy 63 = .ok (.ireturn, 1) := by decide +kernel
theorem dX0_unfoldedAt_0 : decode cX0_unfoldedAt 0 = .ok (.iconst 0, 1) := by decide +kernel
theorem dX0_unfoldedAt_1 : decode cX0_unfoldedAt 1 = .ok (.istore 4, 2) := by decide +kernel
theorem dX0_unfoldedAt_3 : decode cX0_unfoldedAt 3 = .ok (.iconst 0, 1) := by decide +kernel
theorem dX0_unfoldedAt_4 : decode cX0_unfoldedAt 4 = .ok (.istore 5, 2) := by decide +kernel
theorem dX0_unfoldedAt_6 : decode cX0_unfoldedAt 6 = .ok (.iload 5, 2) := by decide +kernel
theorem dX0_unfoldedAt_8 : decode cX0_unfoldedAt 8 = .ok (.aload_n 0, 1) := by decide +kernel
theorem dX0_unfoldedAt_9 : decode cX0_unfoldedAt 9 = .ok (.aload_n 1, 1) := by decide +kernel
theorem dX0_unfoldedAt_10 : decode cX0_unfoldedAt 10 = .ok (.iload_n 2, 1) := by decide +kernel
theorem dX0_unfoldedAt_11 : decode cX0_unfoldedAt 11 = .ok (.invokevirtual 23, 3) := by decide +kernel
theorem dX0_unfoldedAt_14 : decode cX0_unfoldedAt 14 = .ok (.iconst 1, 1) := by decide +kernel
theorem dX0_unfoldedAt_15 : decode cX0_unfoldedAt 15 = .ok (.isub, 1) := by decide +kernel
theorem dX0_unfoldedAt_16 : decode cX0_unfoldedAt 16 = .ok (.if_icmp .ge 55, 3) := by decide +kernel
theorem dX0_unfoldedAt_19 : decode cX0_unfoldedAt 19 = .ok (.aload_n 0, 1) := by decide +kernel
theorem dX0_unfoldedAt_20 : decode cX0_unfoldedAt 20 = .ok (.aload_n 1, 1) := by decide +kernel
theorem dX0_unfoldedAt_21 : decode cX0_unfoldedAt 21 = .ok (.iload_n 2, 1) := by decide +kernel
theorem dX0_unfoldedAt_22 : decode cX0_unfoldedAt 22 = .ok (.iload 5, 2) := by decide +kernel
theorem dX0_unfoldedAt_24 : decode cX0_unfoldedAt 24 = .ok (.invokevirtual 27, 3) := by decide +kernel
theorem dX0_unfoldedAt_27 : decode cX0_unfoldedAt 27 = .ok (.istore 6, 2) := by decide +kernel
theorem dX0_unfoldedAt_29 : decode cX0_unfoldedAt 29 = .ok (.aload_n 0, 1) := by decide +kernel
theorem dX0_unfoldedAt_30 : decode cX0_unfoldedAt 30 = .ok (.getfield 9, 3) := by decide +kernel
theorem dX0_unfoldedAt_33 : decode cX0_unfoldedAt 33 = .ok (.iload 6, 2) := by decide +kernel
theorem dX0_unfoldedAt_35 : decode cX0_unfoldedAt 35 = .ok (.invokestatic 31, 3) := by decide +kernel
theorem dX0_unfoldedAt_38 : decode cX0_unfoldedAt 38 = .ok (.ifCond .ne 27, 3) := by decide +kernel
theorem dX0_unfoldedAt_41 : decode cX0_unfoldedAt 41 = .ok (.aload_n 0, 1) := by decide +kernel
theorem dX0_unfoldedAt_42 : decode cX0_unfoldedAt 42 = .ok (.getfield 17, 3) := by decide +kernel
theorem dX0_unfoldedAt_45 : decode cX0_unfoldedAt 45 = .ok (.iload_n 2, 1) := by decide +kernel
theorem dX0_unfoldedAt_46 : decode cX0_unfoldedAt 46 = .ok (.aaload, 1) := by decide +kernel
theorem dX0_unfoldedAt_47 : decode cX0_unfoldedAt 47 = .ok (.iload 5, 2) := by decide +kernel
theorem dX0_unfoldedAt_49 : decode cX0_unfoldedAt 49 = .ok (.iconst 1, 1) := by decide +kernel
theorem dX0_unfoldedAt_50 : decode cX0_unfoldedAt 50 = .ok (.iadd, 1) := by decide +kernel
theorem dX0_unfoldedAt_51 : decode cX0_unfoldedAt 51 = .ok (.iaload, 1) := by decide +kernel
theorem dX0_unfoldedAt_52 : decode cX0_unfoldedAt 52 = .ok (.iload_n 3, 1) := by decide +kernel
theorem dX0_unfoldedAt_53 : decode cX0_unfoldedAt 53 = .ok (.if_icmp .ne 12, 3) := by decide +kernel
theorem dX0_unfoldedAt_56 : decode cX0_unfoldedAt 56 = .ok (.iload 4, 2) := by decide +kernel
theorem dX0_unfoldedAt_58 : decode cX0_unfoldedAt 58 = .ok (.iconst 1, 1) := by decide +kernel
theorem dX0_unfoldedAt_59 : decode cX0_unfoldedAt 59 = .ok (.iload 6, 2) := by decide +kernel
theorem dX0_unfoldedAt_61 : decode cX0_unfoldedAt 61 = .ok (.ishl, 1) := by decide +kernel
theorem dX0_unfoldedAt_62 : decode cX0_unfoldedAt 62 = .ok (.ior, 1) := by decide +kernel
theorem dX0_unfoldedAt_63 : decode cX0_unfoldedAt 63 = .ok (.istore 4, 2) := by decide +kernel
theorem dX0_unfoldedAt_65 : decode cX0_unfoldedAt 65 = .ok (.iinc 5 1, 3) := by decide +kernel
theorem dX0_unfoldedAt_68 : decode cX0_unfoldedAt 68 = .ok (.goto (-62), 3) := by decide +kernel
theorem dX0_unfoldedAt_71 : decode cX0_unfoldedAt 71 = .ok (.iload 4, 2) := by decide +kernel
theorem dX0_unfoldedAt_73 : decode cX0_unfoldedAt 73 = .ok (.ireturn, 1) := by decide +kernel
theorem dX0_isWithinOne_0 : decode cX0_isWithinOne 0 = .ok (.iconst 0, 1) := by decide +kernel
theorem dX0_isWithinOne_1 : decode cX0_isWithinOne 1 = .ok (.istore 4, 2) := by decide +kernel
theorem dX0_isWithinOne_3 : decode cX0_isWithinOne 3 = .ok (.iload 4, 2) := by decide +kernel
theorem dX0_isWithinOne_5 : decode cX0_isWithinOne 5 = .ok (.aload_n 0, 1) := by decide +kernel
theorem dX0_isWithinOne_6 : decode cX0_isWithinOne 6 = .ok (.aload_n 1, 1) := by decide +kernel
theorem dX0_isWithinOne_7 : decode cX0_isWithinOne 7 = .ok (.iload_n 2, 1) := by decide +kernel
theorem dX0_isWithinOne_8 : decode cX0_isWithinOne 8 = .ok (.invokevirtual 23, 3) := by decide +kernel
theorem dX0_isWithinOne_11 : decode cX0_isWithinOne 11 = .ok (.if_icmp .ge 38, 3) := by decide +kernel
theorem dX0_isWithinOne_14 : decode cX0_isWithinOne 14 = .ok (.iload_n 3, 1) := by decide +kernel
theorem dX0_isWithinOne_15 : decode cX0_isWithinOne 15 = .ok (.aload_n 0, 1) := by decide +kernel
theorem dX0_isWithinOne_16 : decode cX0_isWithinOne 16 = .ok (.getfield 17, 3) := by decide +kernel
theorem dX0_isWithinOne_19 : decode cX0_isWithinOne 19 = .ok (.iload_n 2, 1) := by decide +kernel
theorem dX0_isWithinOne_20 : decode cX0_isWithinOne 20 = .ok (.aaload, 1) := by decide +kernel
theorem dX0_isWithinOne_21 : decode cX0_isWithinOne 21 = .ok (.iload 4, 2) := by decide +kernel
theorem dX0_isWithinOne_23 : decode cX0_isWithinOne 23 = .ok (.iaload, 1) := by decide +kernel
theorem dX0_isWithinOne_24 : decode cX0_isWithinOne 24 = .ok (.aload_n 0, 1) := by decide +kernel
theorem dX0_isWithinOne_25 : decode cX0_isWithinOne 25 = .ok (.getfield 17, 3) := by decide +kernel
theorem dX0_isWithinOne_28 : decode cX0_isWithinOne 28 = .ok (.iload_n 2, 1) := by decide +kernel
theorem dX0_isWithinOne_29 : decode cX0_isWithinOne 29 = .ok (.aaload, 1) := by decide +kernel
theorem dX0_isWithinOne_30 : decode cX0_isWithinOne 30 = .ok (.iload 4, 2) := by decide +kernel
theorem dX0_isWithinOne_32 : decode cX0_isWithinOne 32 = .ok (.iconst 1, 1) := by decide +kernel
theorem dX0_isWithinOne_33 : decode cX0_isWithinOne 33 = .ok (.iadd, 1) := by decide +kernel
theorem dX0_isWithinOne_34 : decode cX0_isWithinOne 34 = .ok (.iaload, 1) := by decide +kernel
theorem dX0_isWithinOne_35 : decode cX0_isWithinOne 35 = .ok (.invokestatic 64, 3) := by decide +kernel
theorem dX0_isWithinOne_38 : decode cX0_isWithinOne 38 = .ok (.ifCond .eq 5, 3) := by decide +kernel
theorem dX0_isWithinOne_41 : decode cX0_isWithinOne 41 = .ok (.iconst 1, 1) := by decide +kernel
theorem dX0_isWithinOne_42 : decode cX0_isWithinOne 42 = .ok (.ireturn, 1) := by decide +kernel
theorem dX0_isWithinOne_43 : decode cX0_isWithinOne 43 = .ok (.iinc 4 1, 3) := by decide +kernel
theorem dX0_isWithinOne_46 : decode cX0_isWithinOne 46 = .ok (.goto (-43), 3) := by decide +kernel
theorem dX0_isWithinOne_49 : decode cX0_isWithinOne 49 = .ok (.iconst 0, 1) := by decide +kernel
theorem dX0_isWithinOne_50 : decode cX0_isWithinOne 50 = .ok (.ireturn, 1) := by decide +kernel
theorem dX0_marksAllow_0 : decode cX0_marksAllow 0 = .ok (.iconst 0, 1) := by decide +kernel
theorem dX0_marksAllow_1 : decode cX0_marksAllow 1 = .ok (.istore 4, 2) := by decide +kernel
theorem dX0_marksAllow_3 : decode cX0_marksAllow 3 = .ok (.iload 4, 2) := by decide +kernel
theorem dX0_marksAllow_5 : decode cX0_marksAllow 5 = .ok (.aload_n 1, 1) := by decide +kernel
theorem dX0_marksAllow_6 : decode cX0_marksAllow 6 = .ok (.getfield 68, 3) := by decide +kernel
theorem dX0_marksAllow_9 : decode cX0_marksAllow 9 = .ok (.if_icmp .ge 70, 3) := by decide +kernel
theorem dX0_marksAllow_12 : decode cX0_marksAllow 12 = .ok (.iload_n 2, 1) := by decide +kernel
theorem dX0_marksAllow_13 : decode cX0_marksAllow 13 = .ok (.aload_n 1, 1) := by decide +kernel
theorem dX0_marksAllow_14 : decode cX0_marksAllow 14 = .ok (.getfield 71, 3) := by decide +kernel
theorem dX0_marksAllow_17 : decode cX0_marksAllow 17 = .ok (.iload 4, 2) := by decide +kernel
theorem dX0_marksAllow_19 : decode cX0_marksAllow 19 = .ok (.iaload, 1) := by decide +kernel
theorem dX0_marksAllow_20 : decode cX0_marksAllow 20 = .ok (.invokestatic 31, 3) := by decide +kernel
theorem dX0_marksAllow_23 : decode cX0_marksAllow 23 = .ok (.ifCond .eq 50, 3) := by decide +kernel
theorem dX0_marksAllow_26 : decode cX0_marksAllow 26 = .ok (.aload_n 1, 1) := by decide +kernel
theorem dX0_marksAllow_27 : decode cX0_marksAllow 27 = .ok (.getfield 74, 3) := by decide +kernel
theorem dX0_marksAllow_30 : decode cX0_marksAllow 30 = .ok (.iload 4, 2) := by decide +kernel
theorem dX0_marksAllow_32 : decode cX0_marksAllow 32 = .ok (.iaload, 1) := by decide +kernel
theorem dX0_marksAllow_33 : decode cX0_marksAllow 33 = .ok (.ifCond .eq 40, 3) := by decide +kernel
theorem dX0_marksAllow_36 : decode cX0_marksAllow 36 = .ok (.aload_n 0, 1) := by decide +kernel
theorem dX0_marksAllow_37 : decode cX0_marksAllow 37 = .ok (.aload_n 1, 1) := by decide +kernel
theorem dX0_marksAllow_38 : decode cX0_marksAllow 38 = .ok (.aload_n 1, 1) := by decide +kernel
theorem dX0_marksAllow_39 : decode cX0_marksAllow 39 = .ok (.getfield 77, 3) := by decide +kernel
theorem dX0_marksAllow_42 : decode cX0_marksAllow 42 = .ok (.iload 4, 2) := by decide +kernel
theorem dX0_marksAllow_44 : decode cX0_marksAllow 44 = .ok (.iaload, 1) := by decide +kernel
theorem dX0_marksAllow_45 : decode cX0_marksAllow 45 = .ok (.invokevirtual 80, 3) := by decide +kernel
theorem dX0_marksAllow_48 : decode cX0_marksAllow 48 = .ok (.iload_n 3, 1) := by decide +kernel
theorem dX0_marksAllow_49 : decode cX0_marksAllow 49 = .ok (.if_icmp .eq 7, 3) := by decide +kernel
theorem dX0_marksAllow_52 : decode cX0_marksAllow 52 = .ok (.iconst 2, 1) := by decide +kernel
theorem dX0_marksAllow_53 : decode cX0_marksAllow 53 = .ok (.goto 4, 3) := by decide +kernel
theorem dX0_marksAllow_56 : decode cX0_marksAllow 56 = .ok (.iconst 1, 1) := by decide +kernel
theorem dX0_marksAllow_57 : decode cX0_marksAllow 57 = .ok (.istore 5, 2) := by decide +kernel
theorem dX0_marksAllow_59 : decode cX0_marksAllow 59 = .ok (.aload_n 1, 1) := by decide +kernel
theorem dX0_marksAllow_60 : decode cX0_marksAllow 60 = .ok (.getfield 74, 3) := by decide +kernel
theorem dX0_marksAllow_63 : decode cX0_marksAllow 63 = .ok (.iload 4, 2) := by decide +kernel
theorem dX0_marksAllow_65 : decode cX0_marksAllow 65 = .ok (.iaload, 1) := by decide +kernel
theorem dX0_marksAllow_66 : decode cX0_marksAllow 66 = .ok (.iload 5, 2) := by decide +kernel
theorem dX0_marksAllow_68 : decode cX0_marksAllow 68 = .ok (.if_icmp .eq 5, 3) := by decide +kernel
theorem dX0_marksAllow_71 : decode cX0_marksAllow 71 = .ok (.iconst 0, 1) := by decide +kernel
theorem dX0_marksAllow_72 : decode cX0_marksAllow 72 = .ok (.ireturn, 1) := by decide +kernel
theorem dX0_marksAllow_73 : decode cX0_marksAllow 73 = .ok (.iinc 4 1, 3) := by decide +kernel
theorem dX0_marksAllow_76 : decode cX0_marksAllow 76 = .ok (.goto (-73), 3) := by decide +kernel
theorem dX0_marksAllow_79 : decode cX0_marksAllow 79 = .ok (.iconst 1, 1) := by decide +kernel
theorem dX0_marksAllow_80 : decode cX0_marksAllow 80 = .ok (.ireturn, 1) := by decide +kernel
theorem dX2_init_0 : decode cX2_init 0 = .ok (.aload_n 0, 1) := by decide +kernel
theorem dX2_init_1 : decode cX2_init 1 = .ok (.invokespecial 3, 3) := by decide +kernel
theorem dX2_init_4 : decode cX2_init 4 = .ok (.aload_n 0, 1) := by decide +kernel
theorem dX2_init_5 : decode cX2_init 5 = .ok (.aconst_null, 1) := by decide +kernel
theorem dX2_init_6 : decode cX2_init 6 = .ok (.putfield 9, 3) := by decide +kernel
theorem dX2_init_9 : decode cX2_init 9 = .ok (.aload_n 0, 1) := by decide +kernel
theorem dX2_init_10 : decode cX2_init 10 = .ok (.bipush 9, 2) := by decide +kernel
theorem dX2_init_12 : decode cX2_init 12 = .ok (.newarray .int, 2) := by decide +kernel
theorem dX2_init_14 : decode cX2_init 14 = .ok (.putfield 15, 3) := by decide +kernel
theorem dX2_init_17 : decode cX2_init 17 = .ok (.aload_n 0, 1) := by decide +kernel
theorem dX2_init_18 : decode cX2_init 18 = .ok (.bipush 9, 2) := by decide +kernel
theorem dX2_init_20 : decode cX2_init 20 = .ok (.newarray .int, 2) := by decide +kernel
theorem dX2_init_22 : decode cX2_init 22 = .ok (.putfield 19, 3) := by decide +kernel
theorem dX2_init_25 : decode cX2_init 25 = .ok (.aload_n 0, 1) := by decide +kernel
theorem dX2_init_26 : decode cX2_init 26 = .ok (.iconst 0, 1) := by decide +kernel
theorem dX2_init_27 : decode cX2_init 27 = .ok (.putfield 22, 3) := by decide +kernel
theorem dX2_init_30 : decode cX2_init 30 = .ok (.aload_n 0, 1) := by decide +kernel
theorem dX2_init_31 : decode cX2_init 31 = .ok (.iconst 0, 1) := by decide +kernel
theorem dX2_init_32 : decode cX2_init 32 = .ok (.putfield 26, 3) := by decide +kernel
theorem dX2_init_35 : decode cX2_init 35 = .ok (.aload_n 0, 1) := by decide +kernel
theorem dX2_init_36 : decode cX2_init 36 = .ok (.bipush 9, 2) := by decide +kernel
theorem dX2_init_38 : decode cX2_init 38 = .ok (.newarray .int, 2) := by decide +kernel
theorem dX2_init_40 : decode cX2_init 40 = .ok (.putfield 29, 3) := by decide +kernel
theorem dX2_init_43 : decode cX2_init 43 = .ok (.aload_n 0, 1) := by decide +kernel
theorem dX2_init_44 : decode cX2_init 44 = .ok (.iconst 0, 1) := by decide +kernel
theorem dX2_init_45 : decode cX2_init 45 = .ok (.putfield 32, 3) := by decide +kernel
theorem dX2_init_48 : decode cX2_init 48 = .ok (.aload_n 0, 1) := by decide +kernel
theorem dX2_init_49 : decode cX2_init 49 = .ok (.bipush 10, 2) := by decide +kernel
theorem dX2_init_51 : decode cX2_init 51 = .ok (.newarray .int, 2) := by decide +kernel
theorem dX2_init_53 : decode cX2_init 53 = .ok (.putfield 35, 3) := by decide +kernel
theorem dX2_init_56 : decode cX2_init 56 = .ok (.aload_n 0, 1) := by decide +kernel
theorem dX2_init_57 : decode cX2_init 57 = .ok (.bipush 10, 2) := by decide +kernel
theorem dX2_init_59 : decode cX2_init 59 = .ok (.newarray .int, 2) := by decide +kernel
theorem dX2_init_61 : decode cX2_init 61 = .ok (.putfield 38, 3) := by decide +kernel
theorem dX2_init_64 : decode cX2_init 64 = .ok (.aload_n 0, 1) := by decide +kernel
theorem dX2_init_65 : decode cX2_init 65 = .ok (.iconst 0, 1) := by decide +kernel
theorem dX2_init_66 : decode cX2_init 66 = .ok (.putfield 41, 3) := by decide +kernel
theorem dX2_init_69 : decode cX2_init 69 = .ok (.return_, 1) := by decide +kernel
theorem dX2_begin_0 : decode cX2_begin 0 = .ok (.aload_n 0, 1) := by decide +kernel
theorem dX2_begin_1 : decode cX2_begin 1 = .ok (.aload_n 1, 1) := by decide +kernel
theorem dX2_begin_2 : decode cX2_begin 2 = .ok (.iconst (-1), 1) := by decide +kernel
theorem dX2_begin_3 : decode cX2_begin 3 = .ok (.invokevirtual 45, 3) := by decide +kernel
theorem dX2_begin_6 : decode cX2_begin 6 = .ok (.return_, 1) := by decide +kernel
theorem dX2_beginWith_0 : decode cX2_beginWith 0 = .ok (.aload_n 0, 1) := by decide +kernel
theorem dX2_beginWith_1 : decode cX2_beginWith 1 = .ok (.aload_n 1, 1) := by decide +kernel
theorem dX2_beginWith_2 : decode cX2_beginWith 2 = .ok (.putfield 9, 3) := by decide +kernel
theorem dX2_beginWith_5 : decode cX2_beginWith 5 = .ok (.aload_n 0, 1) := by decide +kernel
theorem dX2_beginWith_6 : decode cX2_beginWith 6 = .ok (.iconst 0, 1) := by decide +kernel
theorem dX2_beginWith_7 : decode cX2_beginWith 7 = .ok (.putfield 22, 3) := by decide +kernel
theorem dX2_beginWith_10 : decode cX2_beginWith 10 = .ok (.aload_n 0, 1) := by decide +kernel
theorem dX2_beginWith_11 : decode cX2_beginWith 11 = .ok (.iconst 0, 1) := by decide +kernel
theorem dX2_beginWith_12 : decode cX2_beginWith 12 = .ok (.putfield 26, 3) := by decide +kernel
theorem dX2_beginWith_15 : decode cX2_beginWith 15 = .ok (.aload_n 0, 1) := by decide +kernel
theorem dX2_beginWith_16 : decode cX2_beginWith 16 = .ok (.getfield 35, 3) := by decide +kernel
theorem dX2_beginWith_19 : decode cX2_beginWith 19 = .ok (.iconst 0, 1) := by decide +kernel
theorem dX2_beginWith_20 : decode cX2_beginWith 20 = .ok (.iconst 0, 1) := by decide +kernel
theorem dX2_beginWith_21 : decode cX2_beginWith 21 = .ok (.iastore, 1) := by decide +kernel
theorem dX2_beginWith_22 : decode cX2_beginWith 22 = .ok (.aload_n 0, 1) := by decide +kernel
theorem dX2_beginWith_23 : decode cX2_beginWith 23 = .ok (.iconst 0, 1) := by decide +kernel
theorem dX2_beginWith_24 : decode cX2_beginWith 24 = .ok (.putfield 41, 3) := by decide +kernel
theorem dX2_beginWith_27 : decode cX2_beginWith 27 = .ok (.aload_n 0, 1) := by decide +kernel
theorem dX2_beginWith_28 : decode cX2_beginWith 28 = .ok (.getfield 29, 3) := by decide +kernel
theorem dX2_beginWith_31 : decode cX2_beginWith 31 = .ok (.iconst 0, 1) := by decide +kernel
theorem dX2_beginWith_32 : decode cX2_beginWith 32 = .ok (.invokestatic 49, 3) := by decide +kernel
theorem dX2_beginWith_35 : decode cX2_beginWith 35 = .ok (.aload_n 0, 1) := by decide +kernel
theorem dX2_beginWith_36 : decode cX2_beginWith 36 = .ok (.iconst 0, 1) := by decide +kernel
theorem dX2_beginWith_37 : decode cX2_beginWith 37 = .ok (.putfield 32, 3) := by decide +kernel
theorem dX2_beginWith_40 : decode cX2_beginWith 40 = .ok (.iconst 0, 1) := by decide +kernel
theorem dX2_beginWith_41 : decode cX2_beginWith 41 = .ok (.istore_n 3, 1) := by decide +kernel
theorem dX2_beginWith_42 : decode cX2_beginWith 42 = .ok (.iload_n 3, 1) := by decide +kernel
theorem dX2_beginWith_43 : decode cX2_beginWith 43 = .ok (.aload_n 1, 1) := by decide +kernel
theorem dX2_beginWith_44 : decode cX2_beginWith 44 = .ok (.getfield 55, 3) := by decide +kernel
theorem dX2_beginWith_47 : decode cX2_beginWith 47 = .ok (.if_icmp .ge 37, 3) := by decide +kernel
theorem dX2_beginWith_50 : decode cX2_beginWith 50 = .ok (.iload_n 2, 1) := by decide +kernel
theorem dX2_beginWith_51 : decode cX2_beginWith 51 = .ok (.iload_n 3, 1) := by decide +kernel
theorem dX2_beginWith_52 : decode cX2_beginWith 52 = .ok (.invokestatic 60, 3) := by decide +kernel
theorem dX2_beginWith_55 : decode cX2_beginWith 55 = .ok (.ifCond .eq 23, 3) := by decide +kernel
theorem dX2_beginWith_58 : decode cX2_beginWith 58 = .ok (.aload_n 1, 1) := by decide +kernel
theorem dX2_beginWith_59 : decode cX2_beginWith 59 = .ok (.getfield 64, 3) := by decide +kernel
theorem dX2_beginWith_62 : decode cX2_beginWith 62 = .ok (.iload_n 3, 1) := by decide +kernel
theorem dX2_beginWith_63 : decode cX2_beginWith 63 = .ok (.iaload, 1) := by decide +kernel
theorem dX2_beginWith_64 : decode cX2_beginWith 64 = .ok (.ifCond .eq 14, 3) := by decide +kernel
theorem dX2_beginWith_67 : decode cX2_beginWith 67 = .ok (.aload_n 0, 1) := by decide +kernel
theorem dX2_beginWith_68 : decode cX2_beginWith 68 = .ok (.iload_n 3, 1) := by decide +kernel
theorem dX2_beginWith_69 : decode cX2_beginWith 69 = .ok (.aload_n 1, 1) := by decide +kernel
theorem dX2_beginWith_70 : decode cX2_beginWith 70 = .ok (.getfield 64, 3) := by decide +kernel
theorem dX2_beginWith_73 : decode cX2_beginWith 73 = .ok (.iload_n 3, 1) := by decide +kernel
theorem dX2_beginWith_74 : decode cX2_beginWith 74 = .ok (.iaload, 1) := by decide +kernel
theorem dX2_beginWith_75 : decode cX2_beginWith 75 = .ok (.invokevirtual 67, 3) := by decide +kernel
theorem dX2_beginWith_78 : decode cX2_beginWith 78 = .ok (.iinc 3 1, 3) := by decide +kernel
theorem dX2_beginWith_81 : decode cX2_beginWith 81 = .ok (.goto (-39), 3) := by decide +kernel
theorem dX2_beginWith_84 : decode cX2_beginWith 84 = .ok (.return_, 1) := by decide +kernel
theorem dX2_demandTurn_0 : decode cX2_demandTurn 0 = .ok (.aload_n 0, 1) := by decide +kernel
theorem dX2_demandTurn_1 : decode cX2_demandTurn 1 = .ok (.getfield 9, 3) := by decide +kernel
theorem dX2_demandTurn_4 : decode cX2_demandTurn 4 = .ok (.astore_n 3, 1) := by decide +kernel
theorem dX2_demandTurn_5 : decode cX2_demandTurn 5 = .ok (.aload_n 3, 1) := by decide +kernel
theorem dX2_demandTurn_6 : decode cX2_demandTurn 6 = .ok (.ifnull 11, 3) := by decide +kernel
theorem dX2_demandTurn_9 : decode cX2_demandTurn 9 = .ok (.aload_n 3, 1) := by decide +kernel
theorem dX2_demandTurn_10 : decode cX2_demandTurn 10 = .ok (.iload_n 1, 1) := by decide +kernel
theorem dX2_demandTurn_11 : decode cX2_demandTurn 11 = .ok (.invokevirtual 71, 3) := by decide +kernel
theorem dX2_demandTurn_14 : decode cX2_demandTurn 14 = .ok (.ifCond .ne 4, 3) := by decide +kernel
theorem dX2_demandTurn_17 : decode cX2_demandTurn 17 = .ok (.return_, 1) := by decide +kernel
theorem dX2_demandTurn_18 : decode cX2_demandTurn 18 = .ok (.aload_n 3, 1) := by decide +kernel
theorem dX2_demandTurn_19 : decode cX2_demandTurn 19 = .ok (.getfield 75, 3) := by decide +kernel
theorem dX2_demandTurn_22 : decode cX2_demandTurn 22 = .ok (.iload_n 1, 1) := by decide +kernel
theorem dX2_demandTurn_23 : decode cX2_demandTurn 23 = .ok (.iaload, 1) := by decide +kernel
theorem dX2_demandTurn_24 : decode cX2_demandTurn 24 = .ok (.istore 4, 2) := by decide +kernel
theorem dX2_demandTurn_26 : decode cX2_demandTurn 26 = .ok (.aload_n 3, 1) := by decide +kernel
theorem dX2_demandTurn_27 : decode cX2_demandTurn 27 = .ok (.getfield 78, 3) := by decide +kernel
theorem dX2_demandTurn_30 : decode cX2_demandTurn 30 = .ok (.iload_n 1, 1) := by decide +kernel
theorem dX2_demandTurn_31 : decode cX2_demandTurn 31 = .ok (.iaload, 1) := by decide +kernel
theorem dX2_demandTurn_32 : decode cX2_demandTurn 32 = .ok (.istore 5, 2) := by decide +kernel
theorem dX2_demandTurn_34 : decode cX2_demandTurn 34 = .ok (.aload_n 3, 1) := by decide +kernel
theorem dX2_demandTurn_35 : decode cX2_demandTurn 35 = .ok (.iload 4, 2) := by decide +kernel
theorem dX2_demandTurn_37 : decode cX2_demandTurn 37 = .ok (.invokevirtual 81, 3) := by decide +kernel
theorem dX2_demandTurn_40 : decode cX2_demandTurn 40 = .ok (.iload_n 2, 1) := by decide +kernel
theorem dX2_demandTurn_41 : decode cX2_demandTurn 41 = .ok (.iconst 2, 1) := by decide +kernel
theorem dX2_demandTurn_42 : decode cX2_demandTurn 42 = .ok (.if_icmp .ne 7, 3) := by decide +kernel
theorem dX2_demandTurn_45 : decode cX2_demandTurn 45 = .ok (.iconst 1, 1) := by decide +kernel
theorem dX2_demandTurn_46 : decode cX2_demandTurn 46 = .ok (.goto 4, 3) := by decide +kernel
theorem dX2_demandTurn_49 : decode cX2_demandTurn 49 = .ok (.iconst 0, 1) := by decide +kernel
theorem dX2_demandTurn_50 : decode cX2_demandTurn 50 = .ok (.if_icmp .ne 14, 3) := by decide +kernel
theorem dX2_demandTurn_53 : decode cX2_demandTurn 53 = .ok (.aload_n 0, 1) := by decide +kernel
theorem dX2_demandTurn_54 : decode cX2_demandTurn 54 = .ok (.iload 4, 2) := by decide +kernel
theorem dX2_demandTurn_56 : decode cX2_demandTurn 56 = .ok (.iload 5, 2) := by decide +kernel
theorem dX2_demandTurn_58 : decode cX2_demandTurn 58 = .ok (.invokevirtual 84, 3) := by decide +kernel
theorem dX2_demandTurn_61 : decode cX2_demandTurn 61 = .ok (.goto 11, 3) := by decide +kernel
theorem dX2_demandTurn_64 : decode cX2_demandTurn 64 = .ok (.aload_n 0, 1) := by decide +kernel
theorem dX2_demandTurn_65 : decode cX2_demandTurn 65 = .ok (.iload 5, 2) := by decide +kernel
theorem dX2_demandTurn_67 : decode cX2_demandTurn 67 = .ok (.iload 4, 2) := by decide +kernel
theorem dX2_demandTurn_69 : decode cX2_demandTurn 69 = .ok (.invokevirtual 84, 3) := by decide +kernel
theorem dX2_demandTurn_72 : decode cX2_demandTurn 72 = .ok (.return_, 1) := by decide +kernel
theorem dX2_demandBelow_0 : decode cX2_demandBelow 0 = .ok (.aload_n 0, 1) := by decide +kernel
theorem dX2_demandBelow_1 : decode cX2_demandBelow 1 = .ok (.getfield 9, 3) := by decide +kernel
theorem dX2_demandBelow_4 : decode cX2_demandBelow 4 = .ok (.ifnull 49, 3) := by decide +kernel
theorem dX2_demandBelow_7 : decode cX2_demandBelow 7 = .ok (.aload_n 0, 1) := by decide +kernel
theorem dX2_demandBelow_8 : decode cX2_demandBelow 8 = .ok (.getfield 9, 3) := by decide +kernel
theorem dX2_demandBelow_11 : decode cX2_demandBelow 11 = .ok (.iload_n 1, 1) := by decide +kernel
theorem dX2_demandBelow_12 : decode cX2_demandBelow 12 = .ok (.invokevirtual 87, 3) := by decide +kernel
theorem dX2_demandBelow_15 : decode cX2_demandBelow 15 = .ok (.ifCond .eq 38, 3) := by decide +kernel
theorem dX2_demandBelow_18 : decode cX2_demandBelow 18 = .ok (.aload_n 0, 1) := by decide +kernel
theorem dX2_demandBelow_19 : decode cX2_demandBelow 19 = .ok (.getfield 9, 3) := by decide +kernel
theorem dX2_demandBelow_22 : decode cX2_demandBelow 22 = .ok (.iload_n 2, 1) := by decide +kernel
theorem dX2_demandBelow_23 : decode cX2_demandBelow 23 = .ok (.invokevirtual 87, 3) := by decide +kernel
theorem dX2_demandBelow_26 : decode cX2_demandBelow 26 = .ok (.ifCond .eq 27, 3) := by decide +kernel
theorem dX2_demandBelow_29 : decode cX2_demandBelow 29 = .ok (.aload_n 0, 1) := by decide +kernel
theorem dX2_demandBelow_30 : decode cX2_demandBelow 30 = .ok (.getfield 29, 3) := by decide +kernel
theorem dX2_demandBelow_33 : decode cX2_demandBelow 33 = .ok (.iload_n 2, 1) := by decide +kernel
theorem dX2_demandBelow_34 : decode cX2_demandBelow 34 = .ok (.dup2, 1) := by decide +kernel
theorem dX2_demandBelow_35 : decode cX2_demandBelow 35 = .ok (.iaload, 1) := by decide +kernel
theorem dX2_demandBelow_36 : decode cX2_demandBelow 36 = .ok (.iconst 1, 1) := by decide +kernel
theorem dX2_demandBelow_37 : decode cX2_demandBelow 37 = .ok (.iload_n 1, 1) := by decide +kernel
theorem dX2_demandBelow_38 : decode cX2_demandBelow 38 = .ok (.ishl, 1) := by decide +kernel
theorem dX2_demandBelow_39 : decode cX2_demandBelow 39 = .ok (.ior, 1) := by decide +kernel
theorem dX2_demandBelow_40 : decode cX2_demandBelow 40 = .ok (.iastore, 1) := by decide +kernel
theorem dX2_demandBelow_41 : decode cX2_demandBelow 41 = .ok (.aload_n 0, 1) := by decide +kernel
theorem dX2_demandBelow_42 : decode cX2_demandBelow 42 = .ok (.dup, 1) := by decide +kernel
theorem dX2_demandBelow_43 : decode cX2_demandBelow 43 = .ok (.getfield 32, 3) := by decide +kernel
theorem dX2_demandBelow_46 : decode cX2_demandBelow 46 = .ok (.iconst 1, 1) := by decide +kernel
theorem dX2_demandBelow_47 : decode cX2_demandBelow 47 = .ok (.iload_n 2, 1) := by decide +kernel
theorem dX2_demandBelow_48 : decode cX2_demandBelow 48 = .ok (.ishl, 1) := by decide +kernel
theorem dX2_demandBelow_49 : decode cX2_demandBelow 49 = .ok (.ior, 1) := by decide +kernel
theorem dX2_demandBelow_50 : decode cX2_demandBelow 50 = .ok (.putfield 32, 3) := by decide +kernel
theorem dX2_demandBelow_53 : decode cX2_demandBelow 53 = .ok (.return_, 1) := by decide +kernel
theorem dX2_next_0 : decode cX2_next 0 = .ok (.aload_n 0, 1) := by decide +kernel
theorem dX2_next_1 : decode cX2_next 1 = .ok (.getfield 9, 3) := by decide +kernel
theorem dX2_next_4 : decode cX2_next 4 = .ok (.astore_n 1, 1) := by decide +kernel
theorem dX2_next_5 : decode cX2_next 5 = .ok (.aload_n 1, 1) := by decide +kernel
theorem dX2_next_6 : decode cX2_next 6 = .ok (.ifnonnull 5, 3) := by decide +kernel
theorem dX2_next_9 : decode cX2_next 9 = .ok (.iconst 0, 1) := by decide +kernel
theorem dX2_next_10 : decode cX2_next 10 = .ok (.ireturn, 1) := by decide +kernel
theorem dX2_next_11 : decode cX2_next 11 = .ok (.aload_n 0, 1) := by decide +kernel
theorem dX2_next_12 : decode cX2_next 12 = .ok (.getfield 41, 3) := by decide +kernel
theorem dX2_next_15 : decode cX2_next 15 = .ok (.ifCond .ne 38, 3) := by decide +kernel
theorem dX2_next_18 : decode cX2_next 18 = .ok (.aload_n 0, 1) := by decide +kernel
theorem dX2_next_19 : decode cX2_next 19 = .ok (.iconst 1, 1) := by decide +kernel
theorem dX2_next_20 : decode cX2_next 20 = .ok (.putfield 41, 3) := by decide +kernel
theorem dX2_next_23 : decode cX2_next 23 = .ok (.aload_n 0, 1) := by decide +kernel
theorem dX2_next_24 : decode cX2_next 24 = .ok (.getfield 38, 3) := by decide +kernel
theorem dX2_next_27 : decode cX2_next 27 = .ok (.iconst 0, 1) := by decide +kernel
theorem dX2_next_28 : decode cX2_next 28 = .ok (.aload_n 1, 1) := by decide +kernel
theorem dX2_next_29 : decode cX2_next 29 = .ok (.invokevirtual 90, 3) := by decide +kernel
theorem dX2_next_32 : decode cX2_next 32 = .ok (.ifCond .ne 11, 3) := by decide +kernel
theorem dX2_next_35 : decode cX2_next 35 = .ok (.aload_n 0, 1) := by decide +kernel
theorem dX2_next_36 : decode cX2_next 36 = .ok (.aload_n 1, 1) := by decide +kernel
theorem dX2_next_37 : decode cX2_next 37 = .ok (.invokevirtual 94, 3) := by decide +kernel
theorem dX2_next_40 : decode cX2_next 40 = .ok (.ifCond .eq 7, 3) := by decide +kernel
theorem dX2_next_43 : decode cX2_next 43 = .ok (.iconst 0, 1) := by decide +kernel
theorem dX2_next_44 : decode cX2_next 44 = .ok (.goto 8, 3) := by decide +kernel
theorem dX2_next_47 : decode cX2_next 47 = .ok (.aload_n 0, 1) := by decide +kernel
theorem dX2_next_48 : decode cX2_next 48 = .ok (.aload_n 1, 1) := by decide +kernel
theorem dX2_next_49 : decode cX2_next 49 = .ok (.invokevirtual 98, 3) := by decide +kernel
theorem dX2_next_52 : decode cX2_next 52 = .ok (.iastore, 1) := by decide +kernel
theorem dX2_next_53 : decode cX2_next 53 = .ok (.iconst 0, 1) := by decide +kernel
theorem dX2_next_54 : decode cX2_next 54 = .ok (.istore_n 2, 1) := by decide +kernel
theorem dX2_next_55 : decode cX2_next 55 = .ok (.iload_n 2, 1) := by decide +kernel
theorem dX2_next_56 : decode cX2_next 56 = .ok (.ldc 102, 2) := by decide +kernel
theorem dX2_next_58 : decode cX2_next 58 = .ok (.if_icmp .ge 59, 3) := by decide +kernel
theorem dX2_next_61 : decode cX2_next 61 = .ok (.aload_n 0, 1) := by decide +kernel
theorem dX2_next_62 : decode cX2_next 62 = .ok (.getfield 38, 3) := by decide +kernel
theorem dX2_next_65 : decode cX2_next 65 = .ok (.aload_n 0, 1) := by decide +kernel
theorem dX2_next_66 : decode cX2_next 66 = .ok (.getfield 22, 3) := by decide +kernel
theorem dX2_next_69 : decode cX2_next 69 = .ok (.iaload, 1) := by decide +kernel
theorem dX2_next_70 : decode cX2_next 70 = .ok (.ifCond .eq 25, 3) := by decide +kernel
theorem dX2_next_73 : decode cX2_next 73 = .ok (.aload_n 0, 1) := by decide +kernel
theorem dX2_next_74 : decode cX2_next 74 = .ok (.aload_n 1, 1) := by decide +kernel
theorem dX2_next_75 : decode cX2_next 75 = .ok (.aload_n 0, 1) := by decide +kernel
theorem dX2_next_76 : decode cX2_next 76 = .ok (.invokevirtual 103, 3) := by decide +kernel
theorem dX2_next_79 : decode cX2_next 79 = .ok (.invokevirtual 107, 3) := by decide +kernel
theorem dX2_next_82 : decode cX2_next 82 = .ok (.aload_n 0, 1) := by decide +kernel
theorem dX2_next_83 : decode cX2_next 83 = .ok (.getfield 22, 3) := by decide +kernel
theorem dX2_next_86 : decode cX2_next 86 = .ok (.aload_n 1, 1) := by decide +kernel
theorem dX2_next_87 : decode cX2_next 87 = .ok (.getfield 110, 3) := by decide +kernel
theorem dX2_next_90 : decode cX2_next 90 = .ok (.if_icmp .ne 21, 3) := by decide +kernel
theorem dX2_next_93 : decode cX2_next 93 = .ok (.iconst 1, 1) := by decide +kernel
theorem dX2_next_94 : decode cX2_next 94 = .ok (.ireturn, 1) := by decide +kernel
theorem dX2_next_95 : decode cX2_next 95 = .ok (.aload_n 0, 1) := by decide +kernel
theorem dX2_next_96 : decode cX2_next 96 = .ok (.getfield 22, 3) := by decide +kernel
theorem dX2_next_99 : decode cX2_next 99 = .ok (.ifCond .le 10, 3) := by decide +kernel
theorem dX2_next_102 : decode cX2_next 102 = .ok (.aload_n 0, 1) := by decide +kernel
theorem dX2_next_103 : decode cX2_next 103 = .ok (.invokevirtual 113, 3) := by decide +kernel
theorem dX2_next_106 : decode cX2_next 106 = .ok (.goto 5, 3) := by decide +kernel
theorem dX2_next_109 : decode cX2_next 109 = .ok (.iconst 0, 1) := by decide +kernel
theorem dX2_next_110 : decode cX2_next 110 = .ok (.ireturn, 1) := by decide +kernel
theorem dX2_next_111 : decode cX2_next 111 = .ok (.iinc 2 1, 3) := by decide +kernel
theorem dX2_next_114 : decode cX2_next 114 = .ok (.goto (-59), 3) := by decide +kernel
theorem dX2_next_117 : decode cX2_next 117 = .ok (.iconst 0, 1) := by decide +kernel
theorem dX2_next_118 : decode cX2_next 118 = .ok (.ireturn, 1) := by decide +kernel
theorem dX2_asNumber_0 : decode cX2_asNumber 0 = .ok (.lconst 0, 1) := by decide +kernel
theorem dX2_asNumber_1 : decode cX2_asNumber 1 = .ok (.lstore_n 1, 1) := by decide +kernel
theorem dX2_asNumber_2 : decode cX2_asNumber 2 = .ok (.aload_n 0, 1) := by decide +kernel
theorem dX2_asNumber_3 : decode cX2_asNumber 3 = .ok (.getfield 22, 3) := by decide +kernel
theorem dX2_asNumber_6 : decode cX2_asNumber 6 = .ok (.iconst 1, 1) := by decide +kernel
theorem dX2_asNumber_7 : decode cX2_asNumber 7 = .ok (.isub, 1) := by decide +kernel
theorem dX2_asNumber_8 : decode cX2_asNumber 8 = .ok (.istore_n 3, 1) := by decide +kernel
theorem dX2_asNumber_9 : decode cX2_asNumber 9 = .ok (.iload_n 3, 1) := by decide +kernel
theorem dX2_asNumber_10 : decode cX2_asNumber 10 = .ok (.ifCond .lt 23, 3) := by decide +kernel
theorem dX2_asNumber_13 : decode cX2_asNumber 13 = .ok (.lload_n 1, 1) := by decide +kernel
theorem dX2_asNumber_14 : decode cX2_asNumber 14 = .ok (.ldc2_w 116, 3) := by decide +kernel
theorem dX2_asNumber_17 : decode cX2_asNumber 17 = .ok (.lmul, 1) := by decide +kernel
theorem dX2_asNumber_18 : decode cX2_asNumber 18 = .ok (.aload_n 0, 1) := by decide +kernel
theorem dX2_asNumber_19 : decode cX2_asNumber 19 = .ok (.getfield 15, 3) := by decide +kernel
theorem dX2_asNumber_22 : decode cX2_asNumber 22 = .ok (.iload_n 3, 1) := by decide +kernel
theorem dX2_asNumber_23 : decode cX2_asNumber 23 = .ok (.iaload, 1) := by decide +kernel
theorem dX2_asNumber_24 : decode cX2_asNumber 24 = .ok (.i2l, 1) := by decide +kernel
theorem dX2_asNumber_25 : decode cX2_asNumber 25 = .ok (.ladd, 1) := by decide +kernel
theorem dX2_asNumber_26 : decode cX2_asNumber 26 = .ok (.lstore_n 1, 1) := by decide +kernel
theorem dX2_asNumber_27 : decode cX2_asNumber 27 = .ok (.iinc 3 (-1), 3) := by decide +kernel
theorem dX2_asNumber_30 : decode cX2_asNumber 30 = .ok (.goto (-21), 3) := by decide +kernel
theorem dX2_asNumber_33 : decode cX2_asNumber 33 = .ok (.lload_n 1, 1) := by decide +kernel
theorem dX2_asNumber_34 : decode cX2_asNumber 34 = .ok (.lreturn, 1) := by decide +kernel
theorem dX2_demandsClash_0 : decode cX2_demandsClash 0 = .ok (.iconst 0, 1) := by decide +kernel
theorem dX2_demandsClash_1 : decode cX2_demandsClash 1 = .ok (.istore_n 2, 1) := by decide +kernel
theorem dX2_demandsClash_2 : decode cX2_demandsClash 2 = .ok (.iload_n 2, 1) := by decide +kernel
theorem dX2_demandsClash_3 : decode cX2_demandsClash 3 = .ok (.aload_n 1, 1) := by decide +kernel
theorem dX2_demandsClash_4 : decode cX2_demandsClash 4 = .ok (.getfield 110, 3) := by decide +kernel
theorem dX2_demandsClash_7 : decode cX2_demandsClash 7 = .ok (.if_icmp .ge 53, 3) := by decide +kernel
theorem dX2_demandsClash_10 : decode cX2_demandsClash 10 = .ok (.iconst 0, 1) := by decide +kernel
theorem dX2_demandsClash_11 : decode cX2_demandsClash 11 = .ok (.istore_n 3, 1) := by decide +kernel
theorem dX2_demandsClash_12 : decode cX2_demandsClash 12 = .ok (.iload_n 3, 1) := by decide +kernel
theorem dX2_demandsClash_13 : decode cX2_demandsClash 13 = .ok (.aload_n 1, 1) := by decide +kernel
theorem dX2_demandsClash_14 : decode cX2_demandsClash 14 = .ok (.getfield 110, 3) := by decide +kernel
theorem dX2_demandsClash_17 : decode cX2_demandsClash 17 = .ok (.if_icmp .ge 37, 3) := by decide +kernel
theorem dX2_demandsClash_20 : decode cX2_demandsClash 20 = .ok (.aload_n 0, 1) := by decide +kernel
theorem dX2_demandsClash_21 : decode cX2_demandsClash 21 = .ok (.getfield 29, 3) := by decide +kernel
theorem dX2_demandsClash_24 : decode cX2_demandsClash 24 = .ok (.iload_n 3, 1) := by decide +kernel
theorem dX2_demandsClash_25 : decode cX2_demandsClash 25 = .ok (.iaload, 1) := by decide +kernel
theorem dX2_demandsClash_26 : decode cX2_demandsClash 26 = .ok (.iload_n 2, 1) := by decide +kernel
theorem dX2_demandsClash_27 : decode cX2_demandsClash 27 = .ok (.invokestatic 60, 3) := by decide +kernel
theorem dX2_demandsClash_30 : decode cX2_demandsClash 30 = .ok (.ifCond .eq 18, 3) := by decide +kernel
theorem dX2_demandsClash_33 : decode cX2_demandsClash 33 = .ok (.aload_n 0, 1) := by decide +kernel
theorem dX2_demandsClash_34 : decode cX2_demandsClash 34 = .ok (.getfield 29, 3) := by decide +kernel
theorem dX2_demandsClash_37 : decode cX2_demandsClash 37 = .ok (.iload_n 3, 1) := by decide +kernel
theorem dX2_demandsClash_38 : decode cX2_demandsClash 38 = .ok (.dup2, 1) := by decide +kernel
theorem dX2_demandsClash_39 : decode cX2_demandsClash 39 = .ok (.iaload, 1) := by decide +kernel
theorem dX2_demandsClash_40 : decode cX2_demandsClash 40 = .ok (.aload_n 0, 1) := by decide +kernel
theorem dX2_demandsClash_41 : decode cX2_demandsClash 41 = .ok (.getfield 29, 3) := by decide +kernel
theorem dX2_demandsClash_44 : decode cX2_demandsClash 44 = .ok (.iload_n 2, 1) := by decide +kernel
theorem dX2_demandsClash_45 : decode cX2_demandsClash 45 = .ok (.iaload, 1) := by decide +kernel
theorem dX2_demandsClash_46 : decode cX2_demandsClash 46 = .ok (.ior, 1) := by decide +kernel
theorem dX2_demandsClash_47 : decode cX2_demandsClash 47 = .ok (.iastore, 1) := by decide +kernel
theorem dX2_demandsClash_48 : decode cX2_demandsClash 48 = .ok (.iinc 3 1, 3) := by decide +kernel
theorem dX2_demandsClash_51 : decode cX2_demandsClash 51 = .ok (.goto (-39), 3) := by decide +kernel
theorem dX2_demandsClash_54 : decode cX2_demandsClash 54 = .ok (.iinc 2 1, 3) := by decide +kernel
theorem dX2_demandsClash_57 : decode cX2_demandsClash 57 = .ok (.goto (-55), 3) := by decide +kernel
theorem dX2_demandsClash_60 : decode cX2_demandsClash 60 = .ok (.iconst 0, 1) := by decide +kernel
theorem dX2_demandsClash_61 : decode cX2_demandsClash 61 = .ok (.istore_n 2, 1) := by decide +kernel
theorem dX2_demandsClash_62 : decode cX2_demandsClash 62 = .ok (.iload_n 2, 1) := by decide +kernel
theorem dX2_demandsClash_63 : decode cX2_demandsClash 63 = .ok (.aload_n 1, 1) := by decide +kernel
theorem dX2_demandsClash_64 : decode cX2_demandsClash 64 = .ok (.getfield 110, 3) := by decide +kernel
theorem dX2_demandsClash_67 : decode cX2_demandsClash 67 = .ok (.if_icmp .ge 24, 3) := by decide +kernel
theorem dX2_demandsClash_70 : decode cX2_demandsClash 70 = .ok (.aload_n 0, 1) := by decide +kernel
theorem dX2_demandsClash_71 : decode cX2_demandsClash 71 = .ok (.getfield 29, 3) := by decide +kernel
theorem dX2_demandsClash_74 : decode cX2_demandsClash 74 = .ok (.iload_n 2, 1) := by decide +kernel
theorem dX2_demandsClash_75 : decode cX2_demandsClash 75 = .ok (.iaload, 1) := by decide +kernel
theorem dX2_demandsClash_76 : decode cX2_demandsClash 76 = .ok (.iload_n 2, 1) := by decide +kernel
theorem dX2_demandsClash_77 : decode cX2_demandsClash 77 = .ok (.invokestatic 60, 3) := by decide +kernel
theorem dX2_demandsClash_80 : decode cX2_demandsClash 80 = .ok (.ifCond .eq 5, 3) := by decide +kernel
theorem dX2_demandsClash_83 : decode cX2_demandsClash 83 = .ok (.iconst 1, 1) := by decide +kernel
theorem dX2_demandsClash_84 : decode cX2_demandsClash 84 = .ok (.ireturn, 1) := by decide +kernel
theorem dX2_demandsClash_85 : decode cX2_demandsClash 85 = .ok (.iinc 2 1, 3) := by decide +kernel
theorem dX2_demandsClash_88 : decode cX2_demandsClash 88 = .ok (.goto (-26), 3) := by decide +kernel
theorem dX2_demandsClash_91 : decode cX2_demandsClash 91 = .ok (.iconst 0, 1) := by decide +kernel
theorem dX2_demandsClash_92 : decode cX2_demandsClash 92 = .ok (.ireturn, 1) := by decide +kernel
theorem dX2_leastUntried_0 : decode cX2_leastUntried 0 = .ok (.iconst 0, 1) := by decide +kernel
theorem dX2_leastUntried_1 : decode cX2_leastUntried 1 = .ok (.istore_n 1, 1) := by decide +kernel
theorem dX2_leastUntried_2 : decode cX2_leastUntried 2 = .ok (.iload_n 1, 1) := by decide +kernel
theorem dX2_leastUntried_3 : decode cX2_leastUntried 3 = .ok (.bipush 8, 2) := by decide +kernel
theorem dX2_leastUntried_5 : decode cX2_leastUntried 5 = .ok (.if_icmp .ge 25, 3) := by decide +kernel
theorem dX2_leastUntried_8 : decode cX2_leastUntried 8 = .ok (.aload_n 0, 1) := by decide +kernel
theorem dX2_leastUntried_9 : decode cX2_leastUntried 9 = .ok (.getfield 38, 3) := by decide +kernel
theorem dX2_leastUntried_12 : decode cX2_leastUntried 12 = .ok (.aload_n 0, 1) := by decide +kernel
theorem dX2_leastUntried_13 : decode cX2_leastUntried 13 = .ok (.getfield 22, 3) := by decide +kernel
theorem dX2_leastUntried_16 : decode cX2_leastUntried 16 = .ok (.iaload, 1) := by decide +kernel
theorem dX2_leastUntried_17 : decode cX2_leastUntried 17 = .ok (.iload_n 1, 1) := by decide +kernel
theorem dX2_leastUntried_18 : decode cX2_leastUntried 18 = .ok (.invokestatic 60, 3) := by decide +kernel
theorem dX2_leastUntried_21 : decode cX2_leastUntried 21 = .ok (.ifCond .ne 9, 3) := by decide +kernel
theorem dX2_leastUntried_24 : decode cX2_leastUntried 24 = .ok (.iinc 1 1, 3) := by decide +kernel
theorem dX2_leastUntried_27 : decode cX2_leastUntried 27 = .ok (.goto (-25), 3) := by decide +kernel
theorem dX2_leastUntried_30 : decode cX2_leastUntried 30 = .ok (.iload_n 1, 1) := by decide +kernel
theorem dX2_leastUntried_31 : decode cX2_leastUntried 31 = .ok (.ireturn, 1) := by decide +kernel
theorem dX2_put_0 : decode cX2_put 0 = .ok (.aload_n 0, 1) := by decide +kernel
theorem dX2_put_1 : decode cX2_put 1 = .ok (.getfield 38, 3) := by decide +kernel
theorem dX2_put_4 : decode cX2_put 4 = .ok (.aload_n 0, 1) := by decide +kernel
theorem dX2_put_5 : decode cX2_put 5 = .ok (.getfield 22, 3) := by decide +kernel
theorem dX2_put_8 : decode cX2_put 8 = .ok (.dup2, 1) := by decide +kernel
theorem dX2_put_9 : decode cX2_put 9 = .ok (.iaload, 1) := by decide +kernel
theorem dX2_put_10 : decode cX2_put 10 = .ok (.iconst 1, 1) := by decide +kernel
theorem dX2_put_11 : decode cX2_put 11 = .ok (.iload_n 2, 1) := by decide +kernel
theorem dX2_put_12 : decode cX2_put 12 = .ok (.ishl, 1) := by decide +kernel
theorem dX2_put_13 : decode cX2_put 13 = .ok (.iconst (-1), 1) := by decide +kernel
theorem dX2_put_14 : decode cX2_put 14 = .ok (.ixor, 1) := by decide +kernel
theorem dX2_put_15 : decode cX2_put 15 = .ok (.iand, 1) := by decide +kernel
theorem dX2_put_16 : decode cX2_put 16 = .ok (.iastore, 1) := by decide +kernel
theorem dX2_put_17 : decode cX2_put 17 = .ok (.aload_n 0, 1) := by decide +kernel
theorem dX2_put_18 : decode cX2_put 18 = .ok (.getfield 15, 3) := by decide +kernel
theorem dX2_put_21 : decode cX2_put 21 = .ok (.aload_n 0, 1) := by decide +kernel
theorem dX2_put_22 : decode cX2_put 22 = .ok (.getfield 22, 3) := by decide +kernel
theorem dX2_put_25 : decode cX2_put 25 = .ok (.iload_n 2, 1) := by decide +kernel
theorem dX2_put_26 : decode cX2_put 26 = .ok (.iastore, 1) := by decide +kernel
theorem dX2_put_27 : decode cX2_put 27 = .ok (.aload_n 0, 1) := by decide +kernel
theorem dX2_put_28 : decode cX2_put 28 = .ok (.getfield 19, 3) := by decide +kernel
theorem dX2_put_31 : decode cX2_put 31 = .ok (.iload_n 2, 1) := by decide +kernel
theorem dX2_put_32 : decode cX2_put 32 = .ok (.aload_n 0, 1) := by decide +kernel
theorem dX2_put_33 : decode cX2_put 33 = .ok (.getfield 22, 3) := by decide +kernel
theorem dX2_put_36 : decode cX2_put 36 = .ok (.iastore, 1) := by decide +kernel
theorem dX2_put_37 : decode cX2_put 37 = .ok (.aload_n 0, 1) := by decide +kernel
theorem dX2_put_38 : decode cX2_put 38 = .ok (.dup, 1) := by decide +kernel
theorem dX2_put_39 : decode cX2_put 39 = .ok (.getfield 26, 3) := by decide +kernel
theorem dX2_put_42 : decode cX2_put 42 = .ok (.iconst 1, 1) := by decide +kernel
theorem dX2_put_43 : decode cX2_put 43 = .ok (.iload_n 2, 1) := by decide +kernel
theorem dX2_put_44 : decode cX2_put 44 = .ok (.ishl, 1) := by decide +kernel
theorem dX2_put_45 : decode cX2_put 45 = .ok (.ior, 1) := by decide +kernel
theorem dX2_put_46 : decode cX2_put 46 = .ok (.putfield 26, 3) := by decide +kernel
theorem dX2_put_49 : decode cX2_put 49 = .ok (.aload_n 0, 1) := by decide +kernel
theorem dX2_put_50 : decode cX2_put 50 = .ok (.getfield 35, 3) := by decide +kernel
theorem dX2_put_53 : decode cX2_put 53 = .ok (.aload_n 0, 1) := by decide +kernel
theorem dX2_put_54 : decode cX2_put 54 = .ok (.getfield 22, 3) := by decide +kernel
theorem dX2_put_57 : decode cX2_put 57 = .ok (.iconst 1, 1) := by decide +kernel
theorem dX2_put_58 : decode cX2_put 58 = .ok (.iadd, 1) := by decide +kernel
theorem dX2_put_59 : decode cX2_put 59 = .ok (.aload_n 0, 1) := by decide +kernel
theorem dX2_put_60 : decode cX2_put 60 = .ok (.getfield 35, 3) := by decide +kernel
theorem dX2_put_63 : decode cX2_put 63 = .ok (.aload_n 0, 1) := by decide +kernel
theorem dX2_put_64 : decode cX2_put 64 = .ok (.getfield 22, 3) := by decide +kernel
theorem dX2_put_67 : decode cX2_put 67 = .ok (.iaload, 1) := by decide +kernel
theorem dX2_put_68 : decode cX2_put 68 = .ok (.aload_n 1, 1) := by decide +kernel
theorem dX2_put_69 : decode cX2_put 69 = .ok (.getfield 118, 3) := by decide +kernel
theorem dX2_put_72 : decode cX2_put 72 = .ok (.iload_n 2, 1) := by decide +kernel
theorem dX2_put_73 : decode cX2_put 73 = .ok (.iaload, 1) := by decide +kernel
theorem dX2_put_74 : decode cX2_put 74 = .ok (.ixor, 1) := by decide +kernel
theorem dX2_put_75 : decode cX2_put 75 = .ok (.iastore, 1) := by decide +kernel
theorem dX2_put_76 : decode cX2_put 76 = .ok (.aload_n 0, 1) := by decide +kernel
theorem dX2_put_77 : decode cX2_put 77 = .ok (.dup, 1) := by decide +kernel
theorem dX2_put_78 : decode cX2_put 78 = .ok (.getfield 22, 3) := by decide +kernel
theorem dX2_put_81 : decode cX2_put 81 = .ok (.iconst 1, 1) := by decide +kernel
theorem dX2_put_82 : decode cX2_put 82 = .ok (.iadd, 1) := by decide +kernel
theorem dX2_put_83 : decode cX2_put 83 = .ok (.putfield 22, 3) := by decide +kernel
theorem dX2_put_86 : decode cX2_put 86 = .ok (.aload_n 0, 1) := by decide +kernel
theorem dX2_put_87 : decode cX2_put 87 = .ok (.getfield 38, 3) := by decide +kernel
theorem dX2_put_90 : decode cX2_put 90 = .ok (.aload_n 0, 1) := by decide +kernel
theorem dX2_put_91 : decode cX2_put 91 = .ok (.getfield 22, 3) := by decide +kernel
theorem dX2_put_94 : decode cX2_put 94 = .ok (.aload_n 0, 1) := by decide +kernel
theorem dX2_put_95 : decode cX2_put 95 = .ok (.getfield 22, 3) := by decide +kernel
theorem dX2_put_98 : decode cX2_put 98 = .ok (.aload_n 1, 1) := by decide +kernel
theorem dX2_put_99 : decode cX2_put 99 = .ok (.getfield 110, 3) := by decide +kernel
theorem dX2_put_102 : decode cX2_put 102 = .ok (.if_icmp .ge 11, 3) := by decide +kernel
theorem dX2_put_105 : decode cX2_put 105 = .ok (.aload_n 0, 1) := by decide +kernel
theorem dX2_put_106 : decode cX2_put 106 = .ok (.aload_n 1, 1) := by decide +kernel
theorem dX2_put_107 : decode cX2_put 107 = .ok (.invokevirtual 98, 3) := by decide +kernel
theorem dX2_put_110 : decode cX2_put 110 = .ok (.goto 4, 3) := by decide +kernel
theorem dX2_put_113 : decode cX2_put 113 = .ok (.iconst 0, 1) := by decide +kernel
theorem dX2_put_114 : decode cX2_put 114 = .ok (.iastore, 1) := by decide +kernel
theorem dX2_put_115 : decode cX2_put 115 = .ok (.return_, 1) := by decide +kernel
theorem dX2_takeOff_0 : decode cX2_takeOff 0 = .ok (.aload_n 0, 1) := by decide +kernel
theorem dX2_takeOff_1 : decode cX2_takeOff 1 = .ok (.dup, 1) := by decide +kernel
theorem dX2_takeOff_2 : decode cX2_takeOff 2 = .ok (.getfield 22, 3) := by decide +kernel
theorem dX2_takeOff_5 : decode cX2_takeOff 5 = .ok (.iconst 1, 1) := by decide +kernel
theorem dX2_takeOff_6 : decode cX2_takeOff 6 = .ok (.isub, 1) := by decide +kernel
theorem dX2_takeOff_7 : decode cX2_takeOff 7 = .ok (.putfield 22, 3) := by decide +kernel
theorem dX2_takeOff_10 : decode cX2_takeOff 10 = .ok (.aload_n 0, 1) := by decide +kernel
theorem dX2_takeOff_11 : decode cX2_takeOff 11 = .ok (.dup, 1) := by decide +kernel
theorem dX2_takeOff_12 : decode cX2_takeOff 12 = .ok (.getfield 26, 3) := by decide +kernel
theorem dX2_takeOff_15 : decode cX2_takeOff 15 = .ok (.iconst 1, 1) := by decide +kernel
theorem dX2_takeOff_16 : decode cX2_takeOff 16 = .ok (.aload_n 0, 1) := by decide +kernel
theorem dX2_takeOff_17 : decode cX2_takeOff 17 = .ok (.getfield 15, 3) := by decide +kernel
theorem dX2_takeOff_20 : decode cX2_takeOff 20 = .ok (.aload_n 0, 1) := by decide +kernel
theorem dX2_takeOff_21 : decode cX2_takeOff 21 = .ok (.getfield 22, 3) := by decide +kernel
theorem dX2_takeOff_24 : decode cX2_takeOff 24 = .ok (.iaload, 1) := by decide +kernel
theorem dX2_takeOff_25 : decode cX2_takeOff 25 = .ok (.ishl, 1) := by decide +kernel
theorem dX2_takeOff_26 : decode cX2_takeOff 26 = .ok (.iconst (-1), 1) := by decide +kernel
theorem dX2_takeOff_27 : decode cX2_takeOff 27 = .ok (.ixor, 1) := by decide +kernel
theorem dX2_takeOff_28 : decode cX2_takeOff 28 = .ok (.iand, 1) := by decide +kernel
theorem dX2_takeOff_29 : decode cX2_takeOff 29 = .ok (.putfield 26, 3) := by decide +kernel
theorem dX2_takeOff_32 : decode cX2_takeOff 32 = .ok (.return_, 1) := by decide +kernel
theorem dX2_candidates_0 : decode cX2_candidates 0 = .ok (.aload_n 0, 1) := by decide +kernel
theorem dX2_candidates_1 : decode cX2_candidates 1 = .ok (.getfield 26, 3) := by decide +kernel
theorem dX2_candidates_4 : decode cX2_candidates 4 = .ok (.istore_n 2, 1) := by decide +kernel
theorem dX2_candidates_5 : decode cX2_candidates 5 = .ok (.aload_n 0, 1) := by decide +kernel
theorem dX2_candidates_6 : decode cX2_candidates 6 = .ok (.getfield 35, 3) := by decide +kernel
theorem dX2_candidates_9 : decode cX2_candidates 9 = .ok (.aload_n 0, 1) := by decide +kernel
theorem dX2_candidates_10 : decode cX2_candidates 10 = .ok (.getfield 22, 3) := by decide +kernel
theorem dX2_candidates_13 : decode cX2_candidates 13 = .ok (.iaload, 1) := by decide +kernel
theorem dX2_candidates_14 : decode cX2_candidates 14 = .ok (.istore_n 3, 1) := by decide +kernel
theorem dX2_candidates_15 : decode cX2_candidates 15 = .ok (.iconst 0, 1) := by decide +kernel
theorem dX2_candidates_16 : decode cX2_candidates 16 = .ok (.istore 4, 2) := by decide +kernel
theorem dX2_candidates_18 : decode cX2_candidates 18 = .ok (.iload 4, 2) := by decide +kernel
theorem dX2_candidates_20 : decode cX2_candidates 20 = .ok (.aload_n 1, 1) := by decide +kernel
theorem dX2_candidates_21 : decode cX2_candidates 21 = .ok (.getfield 55, 3) := by decide +kernel
theorem dX2_candidates_24 : decode cX2_candidates 24 = .ok (.if_icmp .ge 50, 3) := by decide +kernel
theorem dX2_candidates_27 : decode cX2_candidates 27 = .ok (.iload_n 3, 1) := by decide +kernel
theorem dX2_candidates_28 : decode cX2_candidates 28 = .ok (.iload 4, 2) := by decide +kernel
theorem dX2_candidates_30 : decode cX2_candidates 30 = .ok (.ishr, 1) := by decide +kernel
theorem dX2_candidates_31 : decode cX2_candidates 31 = .ok (.iconst 1, 1) := by decide +kernel
theorem dX2_candidates_32 : decode cX2_candidates 32 = .ok (.iand, 1) := by decide +kernel
theorem dX2_candidates_33 : decode cX2_candidates 33 = .ok (.ifCond .eq 35, 3) := by decide +kernel
theorem dX2_candidates_36 : decode cX2_candidates 36 = .ok (.iload_n 2, 1) := by decide +kernel
theorem dX2_candidates_37 : decode cX2_candidates 37 = .ok (.aload_n 1, 1) := by decide +kernel
theorem dX2_candidates_38 : decode cX2_candidates 38 = .ok (.getfield 121, 3) := by decide +kernel
theorem dX2_candidates_41 : decode cX2_candidates 41 = .ok (.iload 4, 2) := by decide +kernel
theorem dX2_candidates_43 : decode cX2_candidates 43 = .ok (.iaload, 1) := by decide +kernel
theorem dX2_candidates_44 : decode cX2_candidates 44 = .ok (.ior, 1) := by decide +kernel
theorem dX2_candidates_45 : decode cX2_candidates 45 = .ok (.istore_n 2, 1) := by decide +kernel
theorem dX2_candidates_46 : decode cX2_candidates 46 = .ok (.iload_n 3, 1) := by decide +kernel
theorem dX2_candidates_47 : decode cX2_candidates 47 = .ok (.aload_n 1, 1) := by decide +kernel
theorem dX2_candidates_48 : decode cX2_candidates 48 = .ok (.getfield 124, 3) := by decide +kernel
theorem dX2_candidates_51 : decode cX2_candidates 51 = .ok (.iload 4, 2) := by decide +kernel
theorem dX2_candidates_53 : decode cX2_candidates 53 = .ok (.iaload, 1) := by decide +kernel
theorem dX2_candidates_54 : decode cX2_candidates 54 = .ok (.iand, 1) := by decide +kernel
theorem dX2_candidates_55 : decode cX2_candidates 55 = .ok (.ifCond .eq 13, 3) := by decide +kernel
theorem dX2_candidates_58 : decode cX2_candidates 58 = .ok (.iload_n 2, 1) := by decide +kernel
theorem dX2_candidates_59 : decode cX2_candidates 59 = .ok (.aload_n 0, 1) := by decide +kernel
theorem dX2_candidates_60 : decode cX2_candidates 60 = .ok (.aload_n 1, 1) := by decide +kernel
theorem dX2_candidates_61 : decode cX2_candidates 61 = .ok (.iload 4, 2) := by decide +kernel
theorem dX2_candidates_63 : decode cX2_candidates 63 = .ok (.invokevirtual 127, 3) := by decide +kernel
theorem dX2_candidates_66 : decode cX2_candidates 66 = .ok (.ior, 1) := by decide +kernel
theorem dX2_candidates_67 : decode cX2_candidates 67 = .ok (.istore_n 2, 1) := by decide +kernel
theorem dX2_candidates_68 : decode cX2_candidates 68 = .ok (.iinc 4 1, 3) := by decide +kernel
theorem dX2_candidates_71 : decode cX2_candidates 71 = .ok (.goto (-53), 3) := by decide +kernel
theorem dX2_candidates_74 : decode cX2_candidates 74 = .ok (.iconst 1, 1) := by decide +kernel
theorem dX2_candidates_75 : decode cX2_candidates 75 = .ok (.aload_n 1, 1) := by decide +kernel
theorem dX2_candidates_76 : decode cX2_candidates 76 = .ok (.getfield 110, 3) := by decide +kernel
theorem dX2_candidates_79 : decode cX2_candidates 79 = .ok (.ishl, 1) := by decide +kernel
theorem dX2_candidates_80 : decode cX2_candidates 80 = .ok (.iconst 1, 1) := by decide +kernel
theorem dX2_candidates_81 : decode cX2_candidates 81 = .ok (.isub, 1) := by decide +kernel
theorem dX2_candidates_82 : decode cX2_candidates 82 = .ok (.iload_n 2, 1) := by decide +kernel
theorem dX2_candidates_83 : decode cX2_candidates 83 = .ok (.iconst (-1), 1) := by decide +kernel
theorem dX2_candidates_84 : decode cX2_candidates 84 = .ok (.ixor, 1) := by decide +kernel
theorem dX2_candidates_85 : decode cX2_candidates 85 = .ok (.iand, 1) := by decide +kernel
theorem dX2_candidates_86 : decode cX2_candidates 86 = .ok (.istore 4, 2) := by decide +kernel
theorem dX2_candidates_88 : decode cX2_candidates 88 = .ok (.iload 4, 2) := by decide +kernel
theorem dX2_candidates_90 : decode cX2_candidates 90 = .ok (.aload_n 0, 1) := by decide +kernel
theorem dX2_candidates_91 : decode cX2_candidates 91 = .ok (.getfield 32, 3) := by decide +kernel
theorem dX2_candidates_94 : decode cX2_candidates 94 = .ok (.iand, 1) := by decide +kernel
theorem dX2_candidates_95 : decode cX2_candidates 95 = .ok (.ifCond .ne 8, 3) := by decide +kernel
theorem dX2_candidates_98 : decode cX2_candidates 98 = .ok (.iload 4, 2) := by decide +kernel
theorem dX2_candidates_100 : decode cX2_candidates 100 = .ok (.goto 10, 3) := by decide +kernel
theorem dX2_candidates_103 : decode cX2_candidates 103 = .ok (.aload_n 0, 1) := by decide +kernel
theorem dX2_candidates_104 : decode cX2_candidates 104 = .ok (.aload_n 1, 1) := by decide +kernel
theorem dX2_candidates_105 : decode cX2_candidates 105 = .ok (.iload 4, 2) := by decide +kernel
theorem dX2_candidates_107 : decode cX2_candidates 107 = .ok (.invokevirtual 131, 3) := by decide +kernel
theorem dX2_candidates_110 : decode cX2_candidates 110 = .ok (.ireturn, 1) := by decide +kernel
theorem dX2_readyAmong_0 : decode cX2_readyAmong 0 = .ok (.iconst 0, 1) := by decide +kernel
theorem dX2_readyAmong_1 : decode cX2_readyAmong 1 = .ok (.istore_n 3, 1) := by decide +kernel
theorem dX2_readyAmong_2 : decode cX2_readyAmong 2 = .ok (.iconst 0, 1) := by decide +kernel
theorem dX2_readyAmong_3 : decode cX2_readyAmong 3 = .ok (.istore 4, 2) := by decide +kernel
theorem dX2_readyAmong_5 : decode cX2_readyAmong 5 = .ok (.iload 4, 2) := by decide +kernel
theorem dX2_readyAmong_7 : decode cX2_readyAmong 7 = .ok (.aload_n 1, 1) := by decide +kernel
theorem dX2_readyAmong_8 : decode cX2_readyAmong 8 = .ok (.getfield 110, 3) := by decide +kernel
theorem dX2_readyAmong_11 : decode cX2_readyAmong 11 = .ok (.if_icmp .ge 42, 3) := by decide +kernel
theorem dX2_readyAmong_14 : decode cX2_readyAmong 14 = .ok (.iload_n 2, 1) := by decide +kernel
theorem dX2_readyAmong_15 : decode cX2_readyAmong 15 = .ok (.iload 4, 2) := by decide +kernel
theorem dX2_readyAmong_17 : decode cX2_readyAmong 17 = .ok (.invokestatic 60, 3) := by decide +kernel
theorem dX2_readyAmong_20 : decode cX2_readyAmong 20 = .ok (.ifCond .eq 27, 3) := by decide +kernel
theorem dX2_readyAmong_23 : decode cX2_readyAmong 23 = .ok (.aload_n 0, 1) := by decide +kernel
theorem dX2_readyAmong_24 : decode cX2_readyAmong 24 = .ok (.getfield 29, 3) := by decide +kernel
theorem dX2_readyAmong_27 : decode cX2_readyAmong 27 = .ok (.iload 4, 2) := by decide +kernel
theorem dX2_readyAmong_29 : decode cX2_readyAmong 29 = .ok (.iaload, 1) := by decide +kernel
theorem dX2_readyAmong_30 : decode cX2_readyAmong 30 = .ok (.aload_n 0, 1) := by decide +kernel
theorem dX2_readyAmong_31 : decode cX2_readyAmong 31 = .ok (.getfield 26, 3) := by decide +kernel
theorem dX2_readyAmong_34 : decode cX2_readyAmong 34 = .ok (.iconst (-1), 1) := by decide +kernel
theorem dX2_readyAmong_35 : decode cX2_readyAmong 35 = .ok (.ixor, 1) := by decide +kernel
theorem dX2_readyAmong_36 : decode cX2_readyAmong 36 = .ok (.iand, 1) := by decide +kernel
theorem dX2_readyAmong_37 : decode cX2_readyAmong 37 = .ok (.ifCond .ne 10, 3) := by decide +kernel
theorem dX2_readyAmong_40 : decode cX2_readyAmong 40 = .ok (.iload_n 3, 1) := by decide +kernel
theorem dX2_readyAmong_41 : decode cX2_readyAmong 41 = .ok (.iconst 1, 1) := by decide +kernel
theorem dX2_readyAmong_42 : decode cX2_readyAmong 42 = .ok (.iload 4, 2) := by decide +kernel
theorem dX2_readyAmong_44 : decode cX2_readyAmong 44 = .ok (.ishl, 1) := by decide +kernel
theorem dX2_readyAmong_45 : decode cX2_readyAmong 45 = .ok (.ior, 1) := by decide +kernel
theorem dX2_readyAmong_46 : decode cX2_readyAmong 46 = .ok (.istore_n 3, 1) := by decide +kernel
theorem dX2_readyAmong_47 : decode cX2_readyAmong 47 = .ok (.iinc 4 1, 3) := by decide +kernel
theorem dX2_readyAmong_50 : decode cX2_readyAmong 50 = .ok (.goto (-45), 3) := by decide +kernel
theorem dX2_readyAmong_53 : decode cX2_readyAmong 53 = .ok (.iload_n 3, 1) := by decide +kernel
theorem dX2_readyAmong_54 : decode cX2_readyAmong 54 = .ok (.ireturn, 1) := by decide +kernel
theorem dX2_barredFromClosing_0 : decode cX2_barredFromClosing 0 = .ok (.aload_n 0, 1) := by decide +kernel
theorem dX2_barredFromClosing_1 : decode cX2_barredFromClosing 1 = .ok (.getfield 26, 3) := by decide +kernel
theorem dX2_barredFromClosing_4 : decode cX2_barredFromClosing 4 = .ok (.aload_n 1, 1) := by decide +kernel
theorem dX2_barredFromClosing_5 : decode cX2_barredFromClosing 5 = .ok (.getfield 75, 3) := by decide +kernel
theorem dX2_barredFromClosing_8 : decode cX2_barredFromClosing 8 = .ok (.iload_n 2, 1) := by decide +kernel
theorem dX2_barredFromClosing_9 : decode cX2_barredFromClosing 9 = .ok (.iaload, 1) := by decide +kernel
theorem dX2_barredFromClosing_10 : decode cX2_barredFromClosing 10 = .ok (.invokestatic 60, 3) := by decide +kernel
theorem dX2_barredFromClosing_13 : decode cX2_barredFromClosing 13 = .ok (.istore_n 3, 1) := by decide +kernel
theorem dX2_barredFromClosing_14 : decode cX2_barredFromClosing 14 = .ok (.iload_n 3, 1) := by decide +kernel
theorem dX2_barredFromClosing_15 : decode cX2_barredFromClosing 15 = .ok (.ifCond .eq 12, 3) := by decide +kernel
theorem dX2_barredFromClosing_18 : decode cX2_barredFromClosing 18 = .ok (.aload_n 1, 1) := by decide +kernel
theorem dX2_barredFromClosing_19 : decode cX2_barredFromClosing 19 = .ok (.getfield 75, 3) := by decide +kernel
theorem dX2_barredFromClosing_22 : decode cX2_barredFromClosing 22 = .ok (.iload_n 2, 1) := by decide +kernel
theorem dX2_barredFromClosing_23 : decode cX2_barredFromClosing 23 = .ok (.iaload, 1) := by decide +kernel
theorem dX2_barredFromClosing_24 : decode cX2_barredFromClosing 24 = .ok (.goto 9, 3) := by decide +kernel
theorem dX2_barredFromClosing_27 : decode cX2_barredFromClosing 27 = .ok (.aload_n 1, 1) := by decide +kernel
theorem dX2_barredFromClosing_28 : decode cX2_barredFromClosing 28 = .ok (.getfield 78, 3) := by decide +kernel
theorem dX2_barredFromClosing_31 : decode cX2_barredFromClosing 31 = .ok (.iload_n 2, 1) := by decide +kernel
theorem dX2_barredFromClosing_32 : decode cX2_barredFromClosing 32 = .ok (.iaload, 1) := by decide +kernel
theorem dX2_barredFromClosing_33 : decode cX2_barredFromClosing 33 = .ok (.istore 4, 2) := by decide +kernel
theorem dX2_barredFromClosing_35 : decode cX2_barredFromClosing 35 = .ok (.iload_n 3, 1) := by decide +kernel
theorem dX2_barredFromClosing_36 : decode cX2_barredFromClosing 36 = .ok (.ifCond .eq 12, 3) := by decide +kernel
theorem dX2_barredFromClosing_39 : decode cX2_barredFromClosing 39 = .ok (.aload_n 1, 1) := by decide +kernel
theorem dX2_barredFromClosing_40 : decode cX2_barredFromClosing 40 = .ok (.getfield 78, 3) := by decide +kernel
theorem dX2_barredFromClosing_43 : decode cX2_barredFromClosing 43 = .ok (.iload_n 2, 1) := by decide +kernel
theorem dX2_barredFromClosing_44 : decode cX2_barredFromClosing 44 = .ok (.iaload, 1) := by decide +kernel
theorem dX2_barredFromClosing_45 : decode cX2_barredFromClosing 45 = .ok (.goto 9, 3) := by decide +kernel
theorem dX2_barredFromClosing_48 : decode cX2_barredFromClosing 48 = .ok (.aload_n 1, 1) := by decide +kernel
theorem dX2_barredFromClosing_49 : decode cX2_barredFromClosing 49 = .ok (.getfield 75, 3) := by decide +kernel
theorem dX2_barredFromClosing_52 : decode cX2_barredFromClosing 52 = .ok (.iload_n 2, 1) := by decide +kernel
theorem dX2_barredFromClosing_53 : decode cX2_barredFromClosing 53 = .ok (.iaload, 1) := by decide +kernel
theorem dX2_barredFromClosing_54 : decode cX2_barredFromClosing 54 = .ok (.istore 5, 2) := by decide +kernel
theorem dX2_barredFromClosing_56 : decode cX2_barredFromClosing 56 = .ok (.aload_n 0, 1) := by decide +kernel
theorem dX2_barredFromClosing_57 : decode cX2_barredFromClosing 57 = .ok (.getfield 35, 3) := by decide +kernel
theorem dX2_barredFromClosing_60 : decode cX2_barredFromClosing 60 = .ok (.aload_n 0, 1) := by decide +kernel
theorem dX2_barredFromClosing_61 : decode cX2_barredFromClosing 61 = .ok (.getfield 22, 3) := by decide +kernel
theorem dX2_barredFromClosing_64 : decode cX2_barredFromClosing 64 = .ok (.iaload, 1) := by decide +kernel
theorem dX2_barredFromClosing_65 : decode cX2_barredFromClosing 65 = .ok (.aload_n 0, 1) := by decide +kernel
theorem dX2_barredFromClosing_66 : decode cX2_barredFromClosing 66 = .ok (.getfield 35, 3) := by decide +kernel
theorem dX2_barredFromClosing_69 : decode cX2_barredFromClosing 69 = .ok (.aload_n 0, 1) := by decide +kernel
theorem dX2_barredFromClosing_70 : decode cX2_barredFromClosing 70 = .ok (.getfield 19, 3) := by decide +kernel
theorem dX2_barredFromClosing_73 : decode cX2_barredFromClosing 73 = .ok (.iload 4, 2) := by decide +kernel
theorem dX2_barredFromClosing_75 : decode cX2_barredFromClosing 75 = .ok (.iaload, 1) := by decide +kernel
theorem dX2_barredFromClosing_76 : decode cX2_barredFromClosing 76 = .ok (.iconst 1, 1) := by decide +kernel
theorem dX2_barredFromClosing_77 : decode cX2_barredFromClosing 77 = .ok (.iadd, 1) := by decide +kernel
theorem dX2_barredFromClosing_78 : decode cX2_barredFromClosing 78 = .ok (.iaload, 1) := by decide +kernel
theorem dX2_barredFromClosing_79 : decode cX2_barredFromClosing 79 = .ok (.iconst (-1), 1) := by decide +kernel
theorem dX2_barredFromClosing_80 : decode cX2_barredFromClosing 80 = .ok (.ixor, 1) := by decide +kernel
theorem dX2_barredFromClosing_81 : decode cX2_barredFromClosing 81 = .ok (.iand, 1) := by decide +kernel
theorem dX2_barredFromClosing_82 : decode cX2_barredFromClosing 82 = .ok (.istore 6, 2) := by decide +kernel
theorem dX2_barredFromClosing_84 : decode cX2_barredFromClosing 84 = .ok (.iload 6, 2) := by decide +kernel
theorem dX2_barredFromClosing_86 : decode cX2_barredFromClosing 86 = .ok (.aload_n 1, 1) := by decide +kernel
theorem dX2_barredFromClosing_87 : decode cX2_barredFromClosing 87 = .ok (.getfield 124, 3) := by decide +kernel
theorem dX2_barredFromClosing_90 : decode cX2_barredFromClosing 90 = .ok (.iload_n 2, 1) := by decide +kernel
theorem dX2_barredFromClosing_91 : decode cX2_barredFromClosing 91 = .ok (.iaload, 1) := by decide +kernel
theorem dX2_barredFromClosing_92 : decode cX2_barredFromClosing 92 = .ok (.iand, 1) := by decide +kernel
theorem dX2_barredFromClosing_93 : decode cX2_barredFromClosing 93 = .ok (.ifCond .eq 10, 3) := by decide +kernel
theorem dX2_barredFromClosing_96 : decode cX2_barredFromClosing 96 = .ok (.iconst 1, 1) := by decide +kernel
theorem dX2_barredFromClosing_97 : decode cX2_barredFromClosing 97 = .ok (.iload 5, 2) := by decide +kernel
theorem dX2_barredFromClosing_99 : decode cX2_barredFromClosing 99 = .ok (.ishl, 1) := by decide +kernel
theorem dX2_barredFromClosing_100 : decode cX2_barredFromClosing 100 = .ok (.goto 4, 3) := by decide +kernel
theorem dX2_barredFromClosing_103 : decode cX2_barredFromClosing 103 = .ok (.iconst 0, 1) := by decide +kernel
theorem dX2_barredFromClosing_104 : decode cX2_barredFromClosing 104 = .ok (.ireturn, 1) := by decide +kernel
theorem dX3_init_0 : decode cX3_init 0 = .ok (.aload_n 0, 1) := by decide +kernel
theorem dX3_init_1 : decode cX3_init 1 = .ok (.invokespecial 3, 3) := by decide +kernel
theorem dX3_init_4 : decode cX3_init 4 = .ok (.aload_n 0, 1) := by decide +kernel
theorem dX3_init_5 : decode cX3_init 5 = .ok (.sipush 256, 3) := by decide +kernel
theorem dX3_init_8 : decode cX3_init 8 = .ok (.newarray .int, 2) := by decide +kernel
theorem dX3_init_10 : decode cX3_init 10 = .ok (.putfield 9, 3) := by decide +kernel
theorem dX3_init_13 : decode cX3_init 13 = .ok (.aload_n 0, 1) := by decide +kernel
theorem dX3_init_14 : decode cX3_init 14 = .ok (.sipush 256, 3) := by decide +kernel
theorem dX3_init_17 : decode cX3_init 17 = .ok (.newarray .int, 2) := by decide +kernel
theorem dX3_init_19 : decode cX3_init 19 = .ok (.putfield 15, 3) := by decide +kernel
theorem dX3_init_22 : decode cX3_init 22 = .ok (.aload_n 0, 1) := by decide +kernel
theorem dX3_init_23 : decode cX3_init 23 = .ok (.sipush 256, 3) := by decide +kernel
theorem dX3_init_26 : decode cX3_init 26 = .ok (.newarray .int, 2) := by decide +kernel
theorem dX3_init_28 : decode cX3_init 28 = .ok (.putfield 18, 3) := by decide +kernel
theorem dX3_init_31 : decode cX3_init 31 = .ok (.return_, 1) := by decide +kernel
theorem dX3_explore_0 : decode cX3_explore 0 = .ok (.aload_n 1, 1) := by decide +kernel
theorem dX3_explore_1 : decode cX3_explore 1 = .ok (.invokevirtual 21, 3) := by decide +kernel
theorem dX3_explore_4 : decode cX3_explore 4 = .ok (.aload_n 0, 1) := by decide +kernel
theorem dX3_explore_5 : decode cX3_explore 5 = .ok (.getfield 9, 3) := by decide +kernel
theorem dX3_explore_8 : decode cX3_explore 8 = .ok (.arraylength, 1) := by decide +kernel
theorem dX3_explore_9 : decode cX3_explore 9 = .ok (.iconst 1, 1) := by decide +kernel
theorem dX3_explore_10 : decode cX3_explore 10 = .ok (.isub, 1) := by decide +kernel
theorem dX3_explore_11 : decode cX3_explore 11 = .ok (.invokestatic 27, 3) := by decide +kernel
theorem dX3_explore_14 : decode cX3_explore 14 = .ok (.istore_n 3, 1) := by decide +kernel
theorem dX3_explore_15 : decode cX3_explore 15 = .ok (.aload_n 0, 1) := by decide +kernel
theorem dX3_explore_16 : decode cX3_explore 16 = .ok (.getfield 9, 3) := by decide +kernel
theorem dX3_explore_19 : decode cX3_explore 19 = .ok (.iload_n 3, 1) := by decide +kernel
theorem dX3_explore_20 : decode cX3_explore 20 = .ok (.iconst 0, 1) := by decide +kernel
theorem dX3_explore_21 : decode cX3_explore 21 = .ok (.iastore, 1) := by decide +kernel
theorem dX3_explore_22 : decode cX3_explore 22 = .ok (.iload_n 3, 1) := by decide +kernel
theorem dX3_explore_23 : decode cX3_explore 23 = .ok (.iconst 1, 1) := by decide +kernel
theorem dX3_explore_24 : decode cX3_explore 24 = .ok (.isub, 1) := by decide +kernel
theorem dX3_explore_25 : decode cX3_explore 25 = .ok (.istore 4, 2) := by decide +kernel
theorem dX3_explore_27 : decode cX3_explore 27 = .ok (.iload 4, 2) := by decide +kernel
theorem dX3_explore_29 : decode cX3_explore 29 = .ok (.ifCond .lt 44, 3) := by decide +kernel
theorem dX3_explore_32 : decode cX3_explore 32 = .ok (.aload_n 0, 1) := by decide +kernel
theorem dX3_explore_33 : decode cX3_explore 33 = .ok (.getfield 9, 3) := by decide +kernel
theorem dX3_explore_36 : decode cX3_explore 36 = .ok (.iload 4, 2) := by decide +kernel
theorem dX3_explore_38 : decode cX3_explore 38 = .ok (.sipush 1000, 3) := by decide +kernel
theorem dX3_explore_41 : decode cX3_explore 41 = .ok (.iastore, 1) := by decide +kernel
theorem dX3_explore_42 : decode cX3_explore 42 = .ok (.aload_n 2, 1) := by decide +kernel
theorem dX3_explore_43 : decode cX3_explore 43 = .ok (.aload_n 1, 1) := by decide +kernel
theorem dX3_explore_44 : decode cX3_explore 44 = .ok (.iload 4, 2) := by decide +kernel
theorem dX3_explore_46 : decode cX3_explore 46 = .ok (.invokevirtual 33, 3) := by decide +kernel
theorem dX3_explore_49 : decode cX3_explore 49 = .ok (.aload_n 0, 1) := by decide +kernel
theorem dX3_explore_50 : decode cX3_explore 50 = .ok (.aload_n 1, 1) := by decide +kernel
theorem dX3_explore_51 : decode cX3_explore 51 = .ok (.iconst 0, 1) := by decide +kernel
theorem dX3_explore_52 : decode cX3_explore 52 = .ok (.iload 4, 2) := by decide +kernel
theorem dX3_explore_54 : decode cX3_explore 54 = .ok (.aload_n 2, 1) := by decide +kernel
theorem dX3_explore_55 : decode cX3_explore 55 = .ok (.invokevirtual 39, 3) := by decide +kernel
theorem dX3_explore_58 : decode cX3_explore 58 = .ok (.aload_n 0, 1) := by decide +kernel
theorem dX3_explore_59 : decode cX3_explore 59 = .ok (.aload_n 1, 1) := by decide +kernel
theorem dX3_explore_60 : decode cX3_explore 60 = .ok (.iconst 1, 1) := by decide +kernel
theorem dX3_explore_61 : decode cX3_explore 61 = .ok (.iload 4, 2) := by decide +kernel
theorem dX3_explore_63 : decode cX3_explore 63 = .ok (.aload_n 2, 1) := by decide +kernel
theorem dX3_explore_64 : decode cX3_explore 64 = .ok (.invokevirtual 39, 3) := by decide +kernel
theorem dX3_explore_67 : decode cX3_explore 67 = .ok (.iinc 4 (-1), 3) := by decide +kernel
theorem dX3_explore_70 : decode cX3_explore 70 = .ok (.goto (-43), 3) := by decide +kernel
theorem dX3_explore_73 : decode cX3_explore 73 = .ok (.return_, 1) := by decide +kernel
theorem dX3_tryLines_0 : decode cX3_tryLines 0 = .ok (.iconst 0, 1) := by decide +kernel
theorem dX3_tryLines_1 : decode cX3_tryLines 1 = .ok (.istore 5, 2) := by decide +kernel
theorem dX3_tryLines_3 : decode cX3_tryLines 3 = .ok (.iload 5, 2) := by decide +kernel
theorem dX3_tryLines_5 : decode cX3_tryLines 5 = .ok (.aload 4, 2) := by decide +kernel
theorem dX3_tryLines_7 : decode cX3_tryLines 7 = .ok (.aload_n 1, 1) := by decide +kernel
theorem dX3_tryLines_8 : decode cX3_tryLines 8 = .ok (.iload_n 2, 1) := by decide +kernel
theorem dX3_tryLines_9 : decode cX3_tryLines 9 = .ok (.invokevirtual 43, 3) := by decide +kernel
theorem dX3_tryLines_12 : decode cX3_tryLines 12 = .ok (.iconst 1, 1) := by decide +kernel
theorem dX3_tryLines_13 : decode cX3_tryLines 13 = .ok (.isub, 1) := by decide +kernel
theorem dX3_tryLines_14 : decode cX3_tryLines 14 = .ok (.if_icmp .ge 67, 3) := by decide +kernel
theorem dX3_tryLines_17 : decode cX3_tryLines 17 = .ok (.iload_n 3, 1) := by decide +kernel
theorem dX3_tryLines_18 : decode cX3_tryLines 18 = .ok (.aload 4, 2) := by decide +kernel
theorem dX3_tryLines_20 : decode cX3_tryLines 20 = .ok (.aload_n 1, 1) := by decide +kernel
theorem dX3_tryLines_21 : decode cX3_tryLines 21 = .ok (.iload_n 2, 1) := by decide +kernel
theorem dX3_tryLines_22 : decode cX3_tryLines 22 = .ok (.iload 5, 2) := by decide +kernel
theorem dX3_tryLines_24 : decode cX3_tryLines 24 = .ok (.invokevirtual 47, 3) := by decide +kernel
theorem dX3_tryLines_27 : decode cX3_tryLines 27 = .ok (.invokestatic 51, 3) := by decide +kernel
theorem dX3_tryLines_30 : decode cX3_tryLines 30 = .ok (.ifCond .ne 45, 3) := by decide +kernel
theorem dX3_tryLines_33 : decode cX3_tryLines 33 = .ok (.iconst 4, 1) := by decide +kernel
theorem dX3_tryLines_34 : decode cX3_tryLines 34 = .ok (.aload 4, 2) := by decide +kernel
theorem dX3_tryLines_36 : decode cX3_tryLines 36 = .ok (.getfield 55, 3) := by decide +kernel
theorem dX3_tryLines_39 : decode cX3_tryLines 39 = .ok (.iload_n 2, 1) := by decide +kernel
theorem dX3_tryLines_40 : decode cX3_tryLines 40 = .ok (.aaload, 1) := by decide +kernel
theorem dX3_tryLines_41 : decode cX3_tryLines 41 = .ok (.iload 5, 2) := by decide +kernel
theorem dX3_tryLines_43 : decode cX3_tryLines 43 = .ok (.iconst 1, 1) := by decide +kernel
theorem dX3_tryLines_44 : decode cX3_tryLines 44 = .ok (.iadd, 1) := by decide +kernel
theorem dX3_tryLines_45 : decode cX3_tryLines 45 = .ok (.iaload, 1) := by decide +kernel
theorem dX3_tryLines_46 : decode cX3_tryLines 46 = .ok (.imul, 1) := by decide +kernel
theorem dX3_tryLines_47 : decode cX3_tryLines 47 = .ok (.iconst 2, 1) := by decide +kernel
theorem dX3_tryLines_48 : decode cX3_tryLines 48 = .ok (.iload_n 2, 1) := by decide +kernel
theorem dX3_tryLines_49 : decode cX3_tryLines 49 = .ok (.imul, 1) := by decide +kernel
theorem dX3_tryLines_50 : decode cX3_tryLines 50 = .ok (.iadd, 1) := by decide +kernel
theorem dX3_tryLines_51 : decode cX3_tryLines 51 = .ok (.istore 6, 2) := by decide +kernel
theorem dX3_tryLines_53 : decode cX3_tryLines 53 = .ok (.aload_n 0, 1) := by decide +kernel
theorem dX3_tryLines_54 : decode cX3_tryLines 54 = .ok (.aload_n 1, 1) := by decide +kernel
theorem dX3_tryLines_55 : decode cX3_tryLines 55 = .ok (.iload 6, 2) := by decide +kernel
theorem dX3_tryLines_57 : decode cX3_tryLines 57 = .ok (.iload_n 3, 1) := by decide +kernel
theorem dX3_tryLines_58 : decode cX3_tryLines 58 = .ok (.aload 4, 2) := by decide +kernel
theorem dX3_tryLines_60 : decode cX3_tryLines 60 = .ok (.invokevirtual 59, 3) := by decide +kernel
theorem dX3_tryLines_63 : decode cX3_tryLines 63 = .ok (.aload_n 0, 1) := by decide +kernel
theorem dX3_tryLines_64 : decode cX3_tryLines 64 = .ok (.aload_n 1, 1) := by decide +kernel
theorem dX3_tryLines_65 : decode cX3_tryLines 65 = .ok (.iload 6, 2) := by decide +kernel
theorem dX3_tryLines_67 : decode cX3_tryLines 67 = .ok (.iconst 1, 1) := by decide +kernel
theorem dX3_tryLines_68 : decode cX3_tryLines 68 = .ok (.iadd, 1) := by decide +kernel
theorem dX3_tryLines_69 : decode cX3_tryLines 69 = .ok (.iload_n 3, 1) := by decide +kernel
theorem dX3_tryLines_70 : decode cX3_tryLines 70 = .ok (.aload 4, 2) := by decide +kernel
theorem dX3_tryLines_72 : decode cX3_tryLines 72 = .ok (.invokevirtual 59, 3) := by decide +kernel
theorem dX3_tryLines_75 : decode cX3_tryLines 75 = .ok (.iinc 5 1, 3) := by decide +kernel
theorem dX3_tryLines_78 : decode cX3_tryLines 78 = .ok (.goto (-75), 3) := by decide +kernel
theorem dX3_tryLines_81 : decode cX3_tryLines 81 = .ok (.return_, 1) := by decide +kernel
theorem dX3_tryStep_0 : decode cX3_tryStep 0 = .ok (.aload 4, 2) := by decide +kernel
theorem dX3_tryStep_2 : decode cX3_tryStep 2 = .ok (.aload_n 1, 1) := by decide +kernel
theorem dX3_tryStep_3 : decode cX3_tryStep 3 = .ok (.iload_n 2, 1) := by decide +kernel
theorem dX3_tryStep_4 : decode cX3_tryStep 4 = .ok (.invokevirtual 62, 3) := by decide +kernel
theorem dX3_tryStep_7 : decode cX3_tryStep 7 = .ok (.istore 5, 2) := by decide +kernel
theorem dX3_tryStep_9 : decode cX3_tryStep 9 = .ok (.iload_n 3, 1) := by decide +kernel
theorem dX3_tryStep_10 : decode cX3_tryStep 10 = .ok (.iload 5, 2) := by decide +kernel
theorem dX3_tryStep_12 : decode cX3_tryStep 12 = .ok (.ior, 1) := by decide +kernel
theorem dX3_tryStep_13 : decode cX3_tryStep 13 = .ok (.istore 6, 2) := by decide +kernel
theorem dX3_tryStep_15 : decode cX3_tryStep 15 = .ok (.iload 5, 2) := by decide +kernel
theorem dX3_tryStep_17 : decode cX3_tryStep 17 = .ok (.ifCond .eq 16, 3) := by decide +kernel
theorem dX3_tryStep_20 : decode cX3_tryStep 20 = .ok (.aload_n 0, 1) := by decide +kernel
theorem dX3_tryStep_21 : decode cX3_tryStep 21 = .ok (.getfield 9, 3) := by decide +kernel
theorem dX3_tryStep_24 : decode cX3_tryStep 24 = .ok (.iload 6, 2) := by decide +kernel
theorem dX3_tryStep_26 : decode cX3_tryStep 26 = .ok (.iaload, 1) := by decide +kernel
theorem dX3_tryStep_27 : decode cX3_tryStep 27 = .ok (.sipush 1000, 3) := by decide +kernel
theorem dX3_tryStep_30 : decode cX3_tryStep 30 = .ok (.if_icmp .ne 4, 3) := by decide +kernel
theorem dX3_tryStep_33 : decode cX3_tryStep 33 = .ok (.return_, 1) := by decide +kernel
theorem dX3_tryStep_34 : decode cX3_tryStep 34 = .ok (.aload_n 0, 1) := by decide +kernel
theorem dX3_tryStep_35 : decode cX3_tryStep 35 = .ok (.getfield 9, 3) := by decide +kernel
theorem dX3_tryStep_38 : decode cX3_tryStep 38 = .ok (.iload 6, 2) := by decide +kernel
theorem dX3_tryStep_40 : decode cX3_tryStep 40 = .ok (.iaload, 1) := by decide +kernel
theorem dX3_tryStep_41 : decode cX3_tryStep 41 = .ok (.iconst 1, 1) := by decide +kernel
theorem dX3_tryStep_42 : decode cX3_tryStep 42 = .ok (.iadd, 1) := by decide +kernel
theorem dX3_tryStep_43 : decode cX3_tryStep 43 = .ok (.istore 7, 2) := by decide +kernel
theorem dX3_tryStep_45 : decode cX3_tryStep 45 = .ok (.iload 7, 2) := by decide +kernel
theorem dX3_tryStep_47 : decode cX3_tryStep 47 = .ok (.aload_n 0, 1) := by decide +kernel
theorem dX3_tryStep_48 : decode cX3_tryStep 48 = .ok (.getfield 9, 3) := by decide +kernel
theorem dX3_tryStep_51 : decode cX3_tryStep 51 = .ok (.iload_n 3, 1) := by decide +kernel
theorem dX3_tryStep_52 : decode cX3_tryStep 52 = .ok (.iaload, 1) := by decide +kernel
theorem dX3_tryStep_53 : decode cX3_tryStep 53 = .ok (.if_icmp .lt 24, 3) := by decide +kernel
theorem dX3_tryStep_56 : decode cX3_tryStep 56 = .ok (.iload 7, 2) := by decide +kernel
theorem dX3_tryStep_58 : decode cX3_tryStep 58 = .ok (.aload_n 0, 1) := by decide +kernel
theorem dX3_tryStep_59 : decode cX3_tryStep 59 = .ok (.getfield 9, 3) := by decide +kernel
theorem dX3_tryStep_62 : decode cX3_tryStep 62 = .ok (.iload_n 3, 1) := by decide +kernel
theorem dX3_tryStep_63 : decode cX3_tryStep 63 = .ok (.iaload, 1) := by decide +kernel
theorem dX3_tryStep_64 : decode cX3_tryStep 64 = .ok (.if_icmp .ne 36, 3) := by decide +kernel
theorem dX3_tryStep_67 : decode cX3_tryStep 67 = .ok (.iload_n 2, 1) := by decide +kernel
theorem dX3_tryStep_68 : decode cX3_tryStep 68 = .ok (.aload_n 0, 1) := by decide +kernel
theorem dX3_tryStep_69 : decode cX3_tryStep 69 = .ok (.getfield 15, 3) := by decide +kernel
theorem dX3_tryStep_72 : decode cX3_tryStep 72 = .ok (.iload_n 3, 1) := by decide +kernel
theorem dX3_tryStep_73 : decode cX3_tryStep 73 = .ok (.iaload, 1) := by decide +kernel
theorem dX3_tryStep_74 : decode cX3_tryStep 74 = .ok (.if_icmp .ge 26, 3) := by decide +kernel
theorem dX3_tryStep_77 : decode cX3_tryStep 77 = .ok (.aload_n 0, 1) := by decide +kernel
theorem dX3_tryStep_78 : decode cX3_tryStep 78 = .ok (.getfield 9, 3) := by decide +kernel
theorem dX3_tryStep_81 : decode cX3_tryStep 81 = .ok (.iload_n 3, 1) := by decide +kernel
theorem dX3_tryStep_82 : decode cX3_tryStep 82 = .ok (.iload 7, 2) := by decide +kernel
theorem dX3_tryStep_84 : decode cX3_tryStep 84 = .ok (.iastore, 1) := by decide +kernel
theorem dX3_tryStep_85 : decode cX3_tryStep 85 = .ok (.aload_n 0, 1) := by decide +kernel
theorem dX3_tryStep_86 : decode cX3_tryStep 86 = .ok (.getfield 15, 3) := by decide +kernel
theorem dX3_tryStep_89 : decode cX3_tryStep 89 = .ok (.iload_n 3, 1) := by decide +kernel
theorem dX3_tryStep_90 : decode cX3_tryStep 90 = .ok (.iload_n 2, 1) := by decide +kernel
theorem dX3_tryStep_91 : decode cX3_tryStep 91 = .ok (.iastore, 1) := by decide +kernel
theorem dX3_tryStep_92 : decode cX3_tryStep 92 = .ok (.aload_n 0, 1) := by decide +kernel
theorem dX3_tryStep_93 : decode cX3_tryStep 93 = .ok (.getfield 18, 3) := by decide +kernel
theorem dX3_tryStep_96 : decode cX3_tryStep 96 = .ok (.iload_n 3, 1) := by decide +kernel
theorem dX3_tryStep_97 : decode cX3_tryStep 97 = .ok (.iload 6, 2) := by decide +kernel
theorem dX3_tryStep_99 : decode cX3_tryStep 99 = .ok (.iastore, 1) := by decide +kernel
theorem dX3_tryStep_100 : decode cX3_tryStep 100 = .ok (.return_, 1) := by decide +kernel
theorem dX3_trace_0 : decode cX3_trace 0 = .ok (.iconst 0, 1) := by decide +kernel
theorem dX3_trace_1 : decode cX3_trace 1 = .ok (.istore_n 3, 1) := by decide +kernel
theorem dX3_trace_2 : decode cX3_trace 2 = .ok (.iconst 0, 1) := by decide +kernel
theorem dX3_trace_3 : decode cX3_trace 3 = .ok (.istore 4, 2) := by decide +kernel
theorem dX3_trace_5 : decode cX3_trace 5 = .ok (.iload 4, 2) := by decide +kernel
theorem dX3_trace_7 : decode cX3_trace 7 = .ok (.iload_n 1, 1) := by decide +kernel
theorem dX3_trace_8 : decode cX3_trace 8 = .ok (.if_icmp .eq 34, 3) := by decide +kernel
theorem dX3_trace_11 : decode cX3_trace 11 = .ok (.iload_n 3, 1) := by decide +kernel
theorem dX3_trace_12 : decode cX3_trace 12 = .ok (.aload_n 2, 1) := by decide +kernel
theorem dX3_trace_13 : decode cX3_trace 13 = .ok (.arraylength, 1) := by decide +kernel
theorem dX3_trace_14 : decode cX3_trace 14 = .ok (.if_icmp .ge 28, 3) := by decide +kernel
theorem dX3_trace_17 : decode cX3_trace 17 = .ok (.aload_n 2, 1) := by decide +kernel
theorem dX3_trace_18 : decode cX3_trace 18 = .ok (.iload_n 3, 1) := by decide +kernel
theorem dX3_trace_19 : decode cX3_trace 19 = .ok (.aload_n 0, 1) := by decide +kernel
theorem dX3_trace_20 : decode cX3_trace 20 = .ok (.getfield 15, 3) := by decide +kernel
theorem dX3_trace_23 : decode cX3_trace 23 = .ok (.iload 4, 2) := by decide +kernel
theorem dX3_trace_25 : decode cX3_trace 25 = .ok (.iaload, 1) := by decide +kernel
theorem dX3_trace_26 : decode cX3_trace 26 = .ok (.iastore, 1) := by decide +kernel
theorem dX3_trace_27 : decode cX3_trace 27 = .ok (.iinc 3 1, 3) := by decide +kernel
theorem dX3_trace_30 : decode cX3_trace 30 = .ok (.aload_n 0, 1) := by decide +kernel
theorem dX3_trace_31 : decode cX3_trace 31 = .ok (.getfield 18, 3) := by decide +kernel
theorem dX3_trace_34 : decode cX3_trace 34 = .ok (.iload 4, 2) := by decide +kernel
theorem dX3_trace_36 : decode cX3_trace 36 = .ok (.iaload, 1) := by decide +kernel
theorem dX3_trace_37 : decode cX3_trace 37 = .ok (.istore 4, 2) := by decide +kernel
theorem dX3_trace_39 : decode cX3_trace 39 = .ok (.goto (-34), 3) := by decide +kernel
theorem dX3_trace_42 : decode cX3_trace 42 = .ok (.iload_n 3, 1) := by decide +kernel
theorem dX3_trace_43 : decode cX3_trace 43 = .ok (.ireturn, 1) := by decide +kernel
theorem dJ6_bitCount_0f7a4_0 : decode cJ6_bitCount_0f7a4 0 = .ok (.iload_n 0, 1) := by decide +kernel
theorem dJ6_bitCount_0f7a4_1 : decode cJ6_bitCount_0f7a4 1 = .ok (.iload_n 0, 1) := by decide +kernel
theorem dJ6_bitCount_0f7a4_2 : decode cJ6_bitCount_0f7a4 2 = .ok (.iconst 1, 1) := by decide +kernel
theorem dJ6_bitCount_0f7a4_3 : decode cJ6_bitCount_0f7a4 3 = .ok (.iushr, 1) := by decide +kernel
theorem dJ6_bitCount_0f7a4_4 : decode cJ6_bitCount_0f7a4 4 = .ok (.ldc_w 265, 3) := by decide +kernel
theorem dJ6_bitCount_0f7a4_7 : decode cJ6_bitCount_0f7a4 7 = .ok (.iand, 1) := by decide +kernel
theorem dJ6_bitCount_0f7a4_8 : decode cJ6_bitCount_0f7a4 8 = .ok (.isub, 1) := by decide +kernel
theorem dJ6_bitCount_0f7a4_9 : decode cJ6_bitCount_0f7a4 9 = .ok (.istore_n 0, 1) := by decide +kernel
theorem dJ6_bitCount_0f7a4_10 : decode cJ6_bitCount_0f7a4 10 = .ok (.iload_n 0, 1) := by decide +kernel
theorem dJ6_bitCount_0f7a4_11 : decode cJ6_bitCount_0f7a4 11 = .ok (.ldc_w 266, 3) := by decide +kernel
theorem dJ6_bitCount_0f7a4_14 : decode cJ6_bitCount_0f7a4 14 = .ok (.iand, 1) := by decide +kernel
theorem dJ6_bitCount_0f7a4_15 : decode cJ6_bitCount_0f7a4 15 = .ok (.iload_n 0, 1) := by decide +kernel
theorem dJ6_bitCount_0f7a4_16 : decode cJ6_bitCount_0f7a4 16 = .ok (.iconst 2, 1) := by decide +kernel
theorem dJ6_bitCount_0f7a4_17 : decode cJ6_bitCount_0f7a4 17 = .ok (.iushr, 1) := by decide +kernel
theorem dJ6_bitCount_0f7a4_18 : decode cJ6_bitCount_0f7a4 18 = .ok (.ldc_w 266, 3) := by decide +kernel
theorem dJ6_bitCount_0f7a4_21 : decode cJ6_bitCount_0f7a4 21 = .ok (.iand, 1) := by decide +kernel
theorem dJ6_bitCount_0f7a4_22 : decode cJ6_bitCount_0f7a4 22 = .ok (.iadd, 1) := by decide +kernel
theorem dJ6_bitCount_0f7a4_23 : decode cJ6_bitCount_0f7a4 23 = .ok (.istore_n 0, 1) := by decide +kernel
theorem dJ6_bitCount_0f7a4_24 : decode cJ6_bitCount_0f7a4 24 = .ok (.iload_n 0, 1) := by decide +kernel
theorem dJ6_bitCount_0f7a4_25 : decode cJ6_bitCount_0f7a4 25 = .ok (.iload_n 0, 1) := by decide +kernel
theorem dJ6_bitCount_0f7a4_26 : decode cJ6_bitCount_0f7a4 26 = .ok (.iconst 4, 1) := by decide +kernel
theorem dJ6_bitCount_0f7a4_27 : decode cJ6_bitCount_0f7a4 27 = .ok (.iushr, 1) := by decide +kernel
theorem dJ6_bitCount_0f7a4_28 : decode cJ6_bitCount_0f7a4 28 = .ok (.iadd, 1) := by decide +kernel
theorem dJ6_bitCount_0f7a4_29 : decode cJ6_bitCount_0f7a4 29 = .ok (.ldc_w 267, 3) := by decide +kernel
theorem dJ6_bitCount_0f7a4_32 : decode cJ6_bitCount_0f7a4 32 = .ok (.iand, 1) := by decide +kernel
theorem dJ6_bitCount_0f7a4_33 : decode cJ6_bitCount_0f7a4 33 = .ok (.istore_n 0, 1) := by decide +kernel
theorem dJ6_bitCount_0f7a4_34 : decode cJ6_bitCount_0f7a4 34 = .ok (.iload_n 0, 1) := by decide +kernel
theorem dJ6_bitCount_0f7a4_35 : decode cJ6_bitCount_0f7a4 35 = .ok (.iload_n 0, 1) := by decide +kernel
theorem dJ6_bitCount_0f7a4_36 : decode cJ6_bitCount_0f7a4 36 = .ok (.bipush 8, 2) := by decide +kernel
theorem dJ6_bitCount_0f7a4_38 : decode cJ6_bitCount_0f7a4 38 = .ok (.iushr, 1) := by decide +kernel
theorem dJ6_bitCount_0f7a4_39 : decode cJ6_bitCount_0f7a4 39 = .ok (.iadd, 1) := by decide +kernel
theorem dJ6_bitCount_0f7a4_40 : decode cJ6_bitCount_0f7a4 40 = .ok (.istore_n 0, 1) := by decide +kernel
theorem dJ6_bitCount_0f7a4_41 : decode cJ6_bitCount_0f7a4 41 = .ok (.iload_n 0, 1) := by decide +kernel
theorem dJ6_bitCount_0f7a4_42 : decode cJ6_bitCount_0f7a4 42 = .ok (.iload_n 0, 1) := by decide +kernel
theorem dJ6_bitCount_0f7a4_43 : decode cJ6_bitCount_0f7a4 43 = .ok (.bipush 16, 2) := by decide +kernel
theorem dJ6_bitCount_0f7a4_45 : decode cJ6_bitCount_0f7a4 45 = .ok (.iushr, 1) := by decide +kernel
theorem dJ6_bitCount_0f7a4_46 : decode cJ6_bitCount_0f7a4 46 = .ok (.iadd, 1) := by decide +kernel
theorem dJ6_bitCount_0f7a4_47 : decode cJ6_bitCount_0f7a4 47 = .ok (.istore_n 0, 1) := by decide +kernel
theorem dJ6_bitCount_0f7a4_48 : decode cJ6_bitCount_0f7a4 48 = .ok (.iload_n 0, 1) := by decide +kernel
theorem dJ6_bitCount_0f7a4_49 : decode cJ6_bitCount_0f7a4 49 = .ok (.bipush 63, 2) := by decide +kernel
theorem dJ6_bitCount_0f7a4_51 : decode cJ6_bitCount_0f7a4 51 = .ok (.iand, 1) := by decide +kernel
theorem dJ6_bitCount_0f7a4_52 : decode cJ6_bitCount_0f7a4 52 = .ok (.ireturn, 1) := by decide +kernel
theorem dJ9_max_7cf53_0 : decode cJ9_max_7cf53 0 = .ok (.iload_n 0, 1) := by decide +kernel
theorem dJ9_max_7cf53_1 : decode cJ9_max_7cf53 1 = .ok (.iload_n 1, 1) := by decide +kernel
theorem dJ9_max_7cf53_2 : decode cJ9_max_7cf53 2 = .ok (.if_icmp .lt 7, 3) := by decide +kernel
theorem dJ9_max_7cf53_5 : decode cJ9_max_7cf53 5 = .ok (.iload_n 0, 1) := by decide +kernel
theorem dJ9_max_7cf53_6 : decode cJ9_max_7cf53 6 = .ok (.goto 4, 3) := by decide +kernel
theorem dJ9_max_7cf53_9 : decode cJ9_max_7cf53 9 = .ok (.iload_n 1, 1) := by decide +kernel
theorem dJ9_max_7cf53_10 : decode cJ9_max_7cf53 10 = .ok (.ireturn, 1) := by decide +kernel
theorem dJ9_min_7cf53_0 : decode cJ9_min_7cf53 0 = .ok (.iload_n 0, 1) := by decide +kernel
theorem dJ9_min_7cf53_1 : decode cJ9_min_7cf53 1 = .ok (.iload_n 1, 1) := by decide +kernel
theorem dJ9_min_7cf53_2 : decode cJ9_min_7cf53 2 = .ok (.if_icmp .gt 7, 3) := by decide +kernel
theorem dJ9_min_7cf53_5 : decode cJ9_min_7cf53 5 = .ok (.iload_n 0, 1) := by decide +kernel
theorem dJ9_min_7cf53_6 : decode cJ9_min_7cf53 6 = .ok (.goto 4, 3) := by decide +kernel
theorem dJ9_min_7cf53_9 : decode cJ9_min_7cf53 9 = .ok (.iload_n 1, 1) := by decide +kernel
theorem dJ9_min_7cf53_10 : decode cJ9_min_7cf53 10 = .ok (.ireturn, 1) := by decide +kernel
theorem dJ7_fill_d0a16_0 : decode cJ7_fill_d0a16 0 = .ok (.iconst 0, 1) := by decide +kernel
theorem dJ7_fill_d0a16_1 : decode cJ7_fill_d0a16 1 = .ok (.istore_n 3, 1) := by decide +kernel
theorem dJ7_fill_d0a16_2 : decode cJ7_fill_d0a16 2 = .ok (.aload_n 0, 1) := by decide +kernel
theorem dJ7_fill_d0a16_3 : decode cJ7_fill_d0a16 3 = .ok (.arraylength, 1) := by decide +kernel
theorem dJ7_fill_d0a16_4 : decode cJ7_fill_d0a16 4 = .ok (.istore 4, 2) := by decide +kernel
theorem dJ7_fill_d0a16_6 : decode cJ7_fill_d0a16 6 = .ok (.iload_n 3, 1) := by decide +kernel
theorem dJ7_fill_d0a16_7 : decode cJ7_fill_d0a16 7 = .ok (.iload 4, 2) := by decide +kernel
theorem dJ7_fill_d0a16_9 : decode cJ7_fill_d0a16 9 = .ok (.if_icmp .ge 13, 3) := by decide +kernel
theorem dJ7_fill_d0a16_12 : decode cJ7_fill_d0a16 12 = .ok (.aload_n 0, 1) := by decide +kernel
theorem dJ7_fill_d0a16_13 : decode cJ7_fill_d0a16 13 = .ok (.iload_n 3, 1) := by decide +kernel
theorem dJ7_fill_d0a16_14 : decode cJ7_fill_d0a16 14 = .ok (.lload_n 1, 1) := by decide +kernel
theorem dJ7_fill_d0a16_15 : decode cJ7_fill_d0a16 15 = .ok (.lastore, 1) := by decide +kernel
theorem dJ7_fill_d0a16_16 : decode cJ7_fill_d0a16 16 = .ok (.iinc 3 1, 3) := by decide +kernel
theorem dJ7_fill_d0a16_19 : decode cJ7_fill_d0a16 19 = .ok (.goto (-13), 3) := by decide +kernel
theorem dJ7_fill_d0a16_22 : decode cJ7_fill_d0a16 22 = .ok (.return_, 1) := by decide +kernel
theorem dJ7_fill_53178_0 : decode cJ7_fill_53178 0 = .ok (.iconst 0, 1) := by decide +kernel
theorem dJ7_fill_53178_1 : decode cJ7_fill_53178 1 = .ok (.istore_n 2, 1) := by decide +kernel
theorem dJ7_fill_53178_2 : decode cJ7_fill_53178 2 = .ok (.aload_n 0, 1) := by decide +kernel
theorem dJ7_fill_53178_3 : decode cJ7_fill_53178 3 = .ok (.arraylength, 1) := by decide +kernel
theorem dJ7_fill_53178_4 : decode cJ7_fill_53178 4 = .ok (.istore_n 3, 1) := by decide +kernel
theorem dJ7_fill_53178_5 : decode cJ7_fill_53178 5 = .ok (.iload_n 2, 1) := by decide +kernel
theorem dJ7_fill_53178_6 : decode cJ7_fill_53178 6 = .ok (.iload_n 3, 1) := by decide +kernel
theorem dJ7_fill_53178_7 : decode cJ7_fill_53178 7 = .ok (.if_icmp .ge 13, 3) := by decide +kernel
theorem dJ7_fill_53178_10 : decode cJ7_fill_53178 10 = .ok (.aload_n 0, 1) := by decide +kernel
theorem dJ7_fill_53178_11 : decode cJ7_fill_53178 11 = .ok (.iload_n 2, 1) := by decide +kernel
theorem dJ7_fill_53178_12 : decode cJ7_fill_53178 12 = .ok (.iload_n 1, 1) := by decide +kernel
theorem dJ7_fill_53178_13 : decode cJ7_fill_53178 13 = .ok (.iastore, 1) := by decide +kernel
theorem dJ7_fill_53178_14 : decode cJ7_fill_53178 14 = .ok (.iinc 2 1, 3) := by decide +kernel
theorem dJ7_fill_53178_17 : decode cJ7_fill_53178 17 = .ok (.goto (-12), 3) := by decide +kernel
theorem dJ7_fill_53178_20 : decode cJ7_fill_53178 20 = .ok (.return_, 1) := by decide +kernel
end
section
theorem dX1_init_0 : decode cX1_init 0 = .ok (.aload_n 0, 1) := by decide +kernel
theorem dX1_init_1 : decode cX1_init 1 = .ok (.invokespecial 3, 3) := by decide +kernel
theorem dX1_init_4 : decode cX1_init 4 = .ok (.aload_n 0, 1) := by decide +kernel
theorem dX1_init_5 : decode cX1_init 5 = .ok (.iconst 0, 1) := by decide +kernel
theorem dX1_init_6 : decode cX1_init 6 = .ok (.putfield 9, 3) := by decide +kernel
theorem dX1_init_9 : decode cX1_init 9 = .ok (.aload_n 0, 1) := by decide +kernel
theorem dX1_init_10 : decode cX1_init 10 = .ok (.bipush 9, 2) := by decide +kernel
theorem dX1_init_12 : decode cX1_init 12 = .ok (.newarray .int, 2) := by decide +kernel
theorem dX1_init_14 : decode cX1_init 14 = .ok (.putfield 15, 3) := by decide +kernel
theorem dX1_init_17 : decode cX1_init 17 = .ok (.aload_n 0, 1) := by decide +kernel
theorem dX1_init_18 : decode cX1_init 18 = .ok (.bipush 9, 2) := by decide +kernel
theorem dX1_init_20 : decode cX1_init 20 = .ok (.newarray .int, 2) := by decide +kernel
theorem dX1_init_22 : decode cX1_init 22 = .ok (.putfield 19, 3) := by decide +kernel
theorem dX1_init_25 : decode cX1_init 25 = .ok (.aload_n 0, 1) := by decide +kernel
theorem dX1_init_26 : decode cX1_init 26 = .ok (.bipush 9, 2) := by decide +kernel
theorem dX1_init_28 : decode cX1_init 28 = .ok (.newarray .int, 2) := by decide +kernel
theorem dX1_init_30 : decode cX1_init 30 = .ok (.putfield 22, 3) := by decide +kernel
theorem dX1_init_33 : decode cX1_init 33 = .ok (.aload_n 0, 1) := by decide +kernel
theorem dX1_init_34 : decode cX1_init 34 = .ok (.bipush 10, 2) := by decide +kernel
theorem dX1_init_36 : decode cX1_init 36 = .ok (.newarray .int, 2) := by decide +kernel
theorem dX1_init_38 : decode cX1_init 38 = .ok (.putfield 25, 3) := by decide +kernel
theorem dX1_init_41 : decode cX1_init 41 = .ok (.aload_n 0, 1) := by decide +kernel
theorem dX1_init_42 : decode cX1_init 42 = .ok (.bipush 12, 2) := by decide +kernel
theorem dX1_init_44 : decode cX1_init 44 = .ok (.newarray .int, 2) := by decide +kernel
theorem dX1_init_46 : decode cX1_init 46 = .ok (.putfield 28, 3) := by decide +kernel
theorem dX1_init_49 : decode cX1_init 49 = .ok (.aload_n 0, 1) := by decide +kernel
theorem dX1_init_50 : decode cX1_init 50 = .ok (.bipush 12, 2) := by decide +kernel
theorem dX1_init_52 : decode cX1_init 52 = .ok (.newarray .int, 2) := by decide +kernel
theorem dX1_init_54 : decode cX1_init 54 = .ok (.putfield 31, 3) := by decide +kernel
theorem dX1_init_57 : decode cX1_init 57 = .ok (.aload_n 0, 1) := by decide +kernel
theorem dX1_init_58 : decode cX1_init 58 = .ok (.bipush 12, 2) := by decide +kernel
theorem dX1_init_60 : decode cX1_init 60 = .ok (.newarray .int, 2) := by decide +kernel
theorem dX1_init_62 : decode cX1_init 62 = .ok (.putfield 34, 3) := by decide +kernel
theorem dX1_init_65 : decode cX1_init 65 = .ok (.aload_n 0, 1) := by decide +kernel
theorem dX1_init_66 : decode cX1_init 66 = .ok (.bipush 12, 2) := by decide +kernel
theorem dX1_init_68 : decode cX1_init 68 = .ok (.newarray .int, 2) := by decide +kernel
theorem dX1_init_70 : decode cX1_init 70 = .ok (.putfield 37, 3) := by decide +kernel
theorem dX1_init_73 : decode cX1_init 73 = .ok (.aload_n 0, 1) := by decide +kernel
theorem dX1_init_74 : decode cX1_init 74 = .ok (.bipush 12, 2) := by decide +kernel
theorem dX1_init_76 : decode cX1_init 76 = .ok (.newarray .int, 2) := by decide +kernel
theorem dX1_init_78 : decode cX1_init 78 = .ok (.putfield 40, 3) := by decide +kernel
theorem dX1_init_81 : decode cX1_init 81 = .ok (.aload_n 0, 1) := by decide +kernel
theorem dX1_init_82 : decode cX1_init 82 = .ok (.bipush 12, 2) := by decide +kernel
theorem dX1_init_84 : decode cX1_init 84 = .ok (.newarray .int, 2) := by decide +kernel
theorem dX1_init_86 : decode cX1_init 86 = .ok (.putfield 43, 3) := by decide +kernel
theorem dX1_init_89 : decode cX1_init 89 = .ok (.aload_n 0, 1) := by decide +kernel
theorem dX1_init_90 : decode cX1_init 90 = .ok (.bipush 12, 2) := by decide +kernel
theorem dX1_init_92 : decode cX1_init 92 = .ok (.newarray .int, 2) := by decide +kernel
theorem dX1_init_94 : decode cX1_init 94 = .ok (.putfield 46, 3) := by decide +kernel
theorem dX1_init_97 : decode cX1_init 97 = .ok (.aload_n 0, 1) := by decide +kernel
theorem dX1_init_98 : decode cX1_init 98 = .ok (.bipush 9, 2) := by decide +kernel
theorem dX1_init_100 : decode cX1_init 100 = .ok (.newarray .int, 2) := by decide +kernel
theorem dX1_init_102 : decode cX1_init 102 = .ok (.putfield 49, 3) := by decide +kernel
theorem dX1_init_105 : decode cX1_init 105 = .ok (.aload_n 0, 1) := by decide +kernel
theorem dX1_init_106 : decode cX1_init 106 = .ok (.iconst 0, 1) := by decide +kernel
theorem dX1_init_107 : decode cX1_init 107 = .ok (.putfield 52, 3) := by decide +kernel
theorem dX1_init_110 : decode cX1_init 110 = .ok (.aload_n 0, 1) := by decide +kernel
theorem dX1_init_111 : decode cX1_init 111 = .ok (.iload_n 1, 1) := by decide +kernel
theorem dX1_init_112 : decode cX1_init 112 = .ok (.putfield 55, 3) := by decide +kernel
theorem dX1_init_115 : decode cX1_init 115 = .ok (.aload_n 0, 1) := by decide +kernel
theorem dX1_init_116 : decode cX1_init 116 = .ok (.iload_n 2, 1) := by decide +kernel
theorem dX1_init_117 : decode cX1_init 117 = .ok (.putfield 58, 3) := by decide +kernel
theorem dX1_init_120 : decode cX1_init 120 = .ok (.aload_n 0, 1) := by decide +kernel
theorem dX1_init_121 : decode cX1_init 121 = .ok (.iload_n 3, 1) := by decide +kernel
theorem dX1_init_122 : decode cX1_init 122 = .ok (.putfield 61, 3) := by decide +kernel
theorem dX1_init_125 : decode cX1_init 125 = .ok (.aload_n 0, 1) := by decide +kernel
theorem dX1_init_126 : decode cX1_init 126 = .ok (.iload_n 2, 1) := by decide +kernel
theorem dX1_init_127 : decode cX1_init 127 = .ok (.iload_n 3, 1) := by decide +kernel
theorem dX1_init_128 : decode cX1_init 128 = .ok (.imul, 1) := by decide +kernel
theorem dX1_init_129 : decode cX1_init 129 = .ok (.putfield 64, 3) := by decide +kernel
theorem dX1_init_132 : decode cX1_init 132 = .ok (.aload_n 0, 1) := by decide +kernel
theorem dX1_init_133 : decode cX1_init 133 = .ok (.getfield 22, 3) := by decide +kernel
theorem dX1_init_136 : decode cX1_init 136 = .ok (.iconst 1, 1) := by decide +kernel
theorem dX1_init_137 : decode cX1_init 137 = .ok (.invokestatic 67, 3) := by decide +kernel
theorem dX1_init_140 : decode cX1_init 140 = .ok (.iconst 0, 1) := by decide +kernel
theorem dX1_init_141 : decode cX1_init 141 = .ok (.istore 4, 2) := by decide +kernel
theorem dX1_init_143 : decode cX1_init 143 = .ok (.iconst 0, 1) := by decide +kernel
theorem dX1_init_144 : decode cX1_init 144 = .ok (.istore 5, 2) := by decide +kernel
theorem dX1_init_146 : decode cX1_init 146 = .ok (.iload 5, 2) := by decide +kernel
theorem dX1_init_148 : decode cX1_init 148 = .ok (.iload_n 2, 1) := by decide +kernel
theorem dX1_init_149 : decode cX1_init 149 = .ok (.if_icmp .ge 52, 3) := by decide +kernel
theorem dX1_init_152 : decode cX1_init 152 = .ok (.iconst 0, 1) := by decide +kernel
theorem dX1_init_153 : decode cX1_init 153 = .ok (.istore 6, 2) := by decide +kernel
theorem dX1_init_155 : decode cX1_init 155 = .ok (.iload 6, 2) := by decide +kernel
theorem dX1_init_157 : decode cX1_init 157 = .ok (.iload_n 3, 1) := by decide +kernel
theorem dX1_init_158 : decode cX1_init 158 = .ok (.if_icmp .ge 37, 3) := by decide +kernel
theorem dX1_init_161 : decode cX1_init 161 = .ok (.iload 4, 2) := by decide +kernel
theorem dX1_init_163 : decode cX1_init 163 = .ok (.bipush 9, 2) := by decide +kernel
theorem dX1_init_165 : decode cX1_init 165 = .ok (.if_icmp .ge 30, 3) := by decide +kernel
theorem dX1_init_168 : decode cX1_init 168 = .ok (.aload_n 0, 1) := by decide +kernel
theorem dX1_init_169 : decode cX1_init 169 = .ok (.getfield 15, 3) := by decide +kernel
theorem dX1_init_172 : decode cX1_init 172 = .ok (.iload 4, 2) := by decide +kernel
theorem dX1_init_174 : decode cX1_init 174 = .ok (.iload 5, 2) := by decide +kernel
theorem dX1_init_176 : decode cX1_init 176 = .ok (.iastore, 1) := by decide +kernel
theorem dX1_init_177 : decode cX1_init 177 = .ok (.aload_n 0, 1) := by decide +kernel
theorem dX1_init_178 : decode cX1_init 178 = .ok (.getfield 19, 3) := by decide +kernel
theorem dX1_init_181 : decode cX1_init 181 = .ok (.iload 4, 2) := by decide +kernel
theorem dX1_init_183 : decode cX1_init 183 = .ok (.iload 6, 2) := by decide +kernel
theorem dX1_init_185 : decode cX1_init 185 = .ok (.iastore, 1) := by decide +kernel
theorem dX1_init_186 : decode cX1_init 186 = .ok (.iinc 6 1, 3) := by decide +kernel
theorem dX1_init_189 : decode cX1_init 189 = .ok (.iinc 4 1, 3) := by decide +kernel
theorem dX1_init_192 : decode cX1_init 192 = .ok (.goto (-37), 3) := by decide +kernel
theorem dX1_init_195 : decode cX1_init 195 = .ok (.iinc 5 1, 3) := by decide +kernel
theorem dX1_init_198 : decode cX1_init 198 = .ok (.goto (-52), 3) := by decide +kernel
theorem dX1_init_201 : decode cX1_init 201 = .ok (.aload_n 0, 1) := by decide +kernel
theorem dX1_init_202 : decode cX1_init 202 = .ok (.invokevirtual 73, 3) := by decide +kernel
theorem dX1_init_205 : decode cX1_init 205 = .ok (.aload_n 0, 1) := by decide +kernel
theorem dX1_init_206 : decode cX1_init 206 = .ok (.invokevirtual 76, 3) := by decide +kernel
theorem dX1_init_209 : decode cX1_init 209 = .ok (.return_, 1) := by decide +kernel
theorem dX1_joinFaces_0 : decode cX1_joinFaces 0 = .ok (.iconst 0, 1) := by decide +kernel
theorem dX1_joinFaces_1 : decode cX1_joinFaces 1 = .ok (.istore_n 1, 1) := by decide +kernel
theorem dX1_joinFaces_2 : decode cX1_joinFaces 2 = .ok (.iload_n 1, 1) := by decide +kernel
theorem dX1_joinFaces_3 : decode cX1_joinFaces 3 = .ok (.aload_n 0, 1) := by decide +kernel
theorem dX1_joinFaces_4 : decode cX1_joinFaces 4 = .ok (.getfield 64, 3) := by decide +kernel
theorem dX1_joinFaces_7 : decode cX1_joinFaces 7 = .ok (.if_icmp .ge 38, 3) := by decide +kernel
theorem dX1_joinFaces_10 : decode cX1_joinFaces 10 = .ok (.aload_n 0, 1) := by decide +kernel
theorem dX1_joinFaces_11 : decode cX1_joinFaces 11 = .ok (.getfield 19, 3) := by decide +kernel
theorem dX1_joinFaces_14 : decode cX1_joinFaces 14 = .ok (.iload_n 1, 1) := by decide +kernel
theorem dX1_joinFaces_15 : decode cX1_joinFaces 15 = .ok (.iaload, 1) := by decide +kernel
theorem dX1_joinFaces_16 : decode cX1_joinFaces 16 = .ok (.iconst 1, 1) := by decide +kernel
theorem dX1_joinFaces_17 : decode cX1_joinFaces 17 = .ok (.iadd, 1) := by decide +kernel
theorem dX1_joinFaces_18 : decode cX1_joinFaces 18 = .ok (.aload_n 0, 1) := by decide +kernel
theorem dX1_joinFaces_19 : decode cX1_joinFaces 19 = .ok (.getfield 61, 3) := by decide +kernel
theorem dX1_joinFaces_22 : decode cX1_joinFaces 22 = .ok (.if_icmp .ge 17, 3) := by decide +kernel
theorem dX1_joinFaces_25 : decode cX1_joinFaces 25 = .ok (.aload_n 0, 1) := by decide +kernel
theorem dX1_joinFaces_26 : decode cX1_joinFaces 26 = .ok (.iload_n 1, 1) := by decide +kernel
theorem dX1_joinFaces_27 : decode cX1_joinFaces 27 = .ok (.iload_n 1, 1) := by decide +kernel
theorem dX1_joinFaces_28 : decode cX1_joinFaces 28 = .ok (.iconst 1, 1) := by decide +kernel
theorem dX1_joinFaces_29 : decode cX1_joinFaces 29 = .ok (.iadd, 1) := by decide +kernel
theorem dX1_joinFaces_30 : decode cX1_joinFaces 30 = .ok (.aload_n 0, 1) := by decide +kernel
theorem dX1_joinFaces_31 : decode cX1_joinFaces 31 = .ok (.getfield 19, 3) := by decide +kernel
theorem dX1_joinFaces_34 : decode cX1_joinFaces 34 = .ok (.iload_n 1, 1) := by decide +kernel
theorem dX1_joinFaces_35 : decode cX1_joinFaces 35 = .ok (.iaload, 1) := by decide +kernel
theorem dX1_joinFaces_36 : decode cX1_joinFaces 36 = .ok (.invokevirtual 79, 3) := by decide +kernel
theorem dX1_joinFaces_39 : decode cX1_joinFaces 39 = .ok (.iinc 1 1, 3) := by decide +kernel
theorem dX1_joinFaces_42 : decode cX1_joinFaces 42 = .ok (.goto (-40), 3) := by decide +kernel
theorem dX1_joinFaces_45 : decode cX1_joinFaces 45 = .ok (.iconst 0, 1) := by decide +kernel
theorem dX1_joinFaces_46 : decode cX1_joinFaces 46 = .ok (.istore_n 1, 1) := by decide +kernel
theorem dX1_joinFaces_47 : decode cX1_joinFaces 47 = .ok (.iload_n 1, 1) := by decide +kernel
theorem dX1_joinFaces_48 : decode cX1_joinFaces 48 = .ok (.aload_n 0, 1) := by decide +kernel
theorem dX1_joinFaces_49 : decode cX1_joinFaces 49 = .ok (.getfield 64, 3) := by decide +kernel
theorem dX1_joinFaces_52 : decode cX1_joinFaces 52 = .ok (.if_icmp .ge 48, 3) := by decide +kernel
theorem dX1_joinFaces_55 : decode cX1_joinFaces 55 = .ok (.aload_n 0, 1) := by decide +kernel
theorem dX1_joinFaces_56 : decode cX1_joinFaces 56 = .ok (.getfield 15, 3) := by decide +kernel
theorem dX1_joinFaces_59 : decode cX1_joinFaces 59 = .ok (.iload_n 1, 1) := by decide +kernel
theorem dX1_joinFaces_60 : decode cX1_joinFaces 60 = .ok (.iaload, 1) := by decide +kernel
theorem dX1_joinFaces_61 : decode cX1_joinFaces 61 = .ok (.iconst 1, 1) := by decide +kernel
theorem dX1_joinFaces_62 : decode cX1_joinFaces 62 = .ok (.iadd, 1) := by decide +kernel
theorem dX1_joinFaces_63 : decode cX1_joinFaces 63 = .ok (.aload_n 0, 1) := by decide +kernel
theorem dX1_joinFaces_64 : decode cX1_joinFaces 64 = .ok (.getfield 58, 3) := by decide +kernel
theorem dX1_joinFaces_67 : decode cX1_joinFaces 67 = .ok (.if_icmp .ge 27, 3) := by decide +kernel
theorem dX1_joinFaces_70 : decode cX1_joinFaces 70 = .ok (.aload_n 0, 1) := by decide +kernel
theorem dX1_joinFaces_71 : decode cX1_joinFaces 71 = .ok (.iload_n 1, 1) := by decide +kernel
theorem dX1_joinFaces_72 : decode cX1_joinFaces 72 = .ok (.iload_n 1, 1) := by decide +kernel
theorem dX1_joinFaces_73 : decode cX1_joinFaces 73 = .ok (.aload_n 0, 1) := by decide +kernel
theorem dX1_joinFaces_74 : decode cX1_joinFaces 74 = .ok (.getfield 61, 3) := by decide +kernel
theorem dX1_joinFaces_77 : decode cX1_joinFaces 77 = .ok (.iadd, 1) := by decide +kernel
theorem dX1_joinFaces_78 : decode cX1_joinFaces 78 = .ok (.aload_n 0, 1) := by decide +kernel
theorem dX1_joinFaces_79 : decode cX1_joinFaces 79 = .ok (.getfield 61, 3) := by decide +kernel
theorem dX1_joinFaces_82 : decode cX1_joinFaces 82 = .ok (.iconst 1, 1) := by decide +kernel
theorem dX1_joinFaces_83 : decode cX1_joinFaces 83 = .ok (.isub, 1) := by decide +kernel
theorem dX1_joinFaces_84 : decode cX1_joinFaces 84 = .ok (.aload_n 0, 1) := by decide +kernel
theorem dX1_joinFaces_85 : decode cX1_joinFaces 85 = .ok (.getfield 15, 3) := by decide +kernel
theorem dX1_joinFaces_88 : decode cX1_joinFaces 88 = .ok (.iload_n 1, 1) := by decide +kernel
theorem dX1_joinFaces_89 : decode cX1_joinFaces 89 = .ok (.iaload, 1) := by decide +kernel
theorem dX1_joinFaces_90 : decode cX1_joinFaces 90 = .ok (.iadd, 1) := by decide +kernel
theorem dX1_joinFaces_91 : decode cX1_joinFaces 91 = .ok (.invokevirtual 79, 3) := by decide +kernel
theorem dX1_joinFaces_94 : decode cX1_joinFaces 94 = .ok (.iinc 1 1, 3) := by decide +kernel
theorem dX1_joinFaces_97 : decode cX1_joinFaces 97 = .ok (.goto (-50), 3) := by decide +kernel
theorem dX1_joinFaces_100 : decode cX1_joinFaces 100 = .ok (.aload_n 0, 1) := by decide +kernel
theorem dX1_joinFaces_101 : decode cX1_joinFaces 101 = .ok (.getfield 55, 3) := by decide +kernel
theorem dX1_joinFaces_104 : decode cX1_joinFaces 104 = .ok (.iconst 1, 1) := by decide +kernel
theorem dX1_joinFaces_105 : decode cX1_joinFaces 105 = .ok (.if_icmp .ne 20, 3) := by decide +kernel
theorem dX1_joinFaces_108 : decode cX1_joinFaces 108 = .ok (.aload_n 0, 1) := by decide +kernel
theorem dX1_joinFaces_109 : decode cX1_joinFaces 109 = .ok (.aload_n 0, 1) := by decide +kernel
theorem dX1_joinFaces_110 : decode cX1_joinFaces 110 = .ok (.getfield 64, 3) := by decide +kernel
theorem dX1_joinFaces_113 : decode cX1_joinFaces 113 = .ok (.iconst 1, 1) := by decide +kernel
theorem dX1_joinFaces_114 : decode cX1_joinFaces 114 = .ok (.isub, 1) := by decide +kernel
theorem dX1_joinFaces_115 : decode cX1_joinFaces 115 = .ok (.iconst 0, 1) := by decide +kernel
theorem dX1_joinFaces_116 : decode cX1_joinFaces 116 = .ok (.aload_n 0, 1) := by decide +kernel
theorem dX1_joinFaces_117 : decode cX1_joinFaces 117 = .ok (.getfield 61, 3) := by decide +kernel
theorem dX1_joinFaces_120 : decode cX1_joinFaces 120 = .ok (.iconst 1, 1) := by decide +kernel
theorem dX1_joinFaces_121 : decode cX1_joinFaces 121 = .ok (.isub, 1) := by decide +kernel
theorem dX1_joinFaces_122 : decode cX1_joinFaces 122 = .ok (.invokevirtual 79, 3) := by decide +kernel
theorem dX1_joinFaces_125 : decode cX1_joinFaces 125 = .ok (.return_, 1) := by decide +kernel
theorem dX1_join_0 : decode cX1_join 0 = .ok (.aload_n 0, 1) := by decide +kernel
theorem dX1_join_1 : decode cX1_join 1 = .ok (.getfield 9, 3) := by decide +kernel
theorem dX1_join_4 : decode cX1_join 4 = .ok (.bipush 12, 2) := by decide +kernel
theorem dX1_join_6 : decode cX1_join 6 = .ok (.if_icmp .lt 4, 3) := by decide +kernel
theorem dX1_join_9 : decode cX1_join 9 = .ok (.return_, 1) := by decide +kernel
theorem dX1_join_10 : decode cX1_join 10 = .ok (.aload_n 0, 1) := by decide +kernel
theorem dX1_join_11 : decode cX1_join 11 = .ok (.getfield 28, 3) := by decide +kernel
theorem dX1_join_14 : decode cX1_join 14 = .ok (.aload_n 0, 1) := by decide +kernel
theorem dX1_join_15 : decode cX1_join 15 = .ok (.getfield 9, 3) := by decide +kernel
theorem dX1_join_18 : decode cX1_join 18 = .ok (.iload_n 1, 1) := by decide +kernel
theorem dX1_join_19 : decode cX1_join 19 = .ok (.iastore, 1) := by decide +kernel
theorem dX1_join_20 : decode cX1_join 20 = .ok (.aload_n 0, 1) := by decide +kernel
theorem dX1_join_21 : decode cX1_join 21 = .ok (.getfield 31, 3) := by decide +kernel
theorem dX1_join_24 : decode cX1_join 24 = .ok (.aload_n 0, 1) := by decide +kernel
theorem dX1_join_25 : decode cX1_join 25 = .ok (.getfield 9, 3) := by decide +kernel
theorem dX1_join_28 : decode cX1_join 28 = .ok (.iload_n 2, 1) := by decide +kernel
theorem dX1_join_29 : decode cX1_join 29 = .ok (.iastore, 1) := by decide +kernel
theorem dX1_join_30 : decode cX1_join 30 = .ok (.aload_n 0, 1) := by decide +kernel
theorem dX1_join_31 : decode cX1_join 31 = .ok (.getfield 34, 3) := by decide +kernel
theorem dX1_join_34 : decode cX1_join 34 = .ok (.aload_n 0, 1) := by decide +kernel
theorem dX1_join_35 : decode cX1_join 35 = .ok (.getfield 9, 3) := by decide +kernel
theorem dX1_join_38 : decode cX1_join 38 = .ok (.iload_n 3, 1) := by decide +kernel
theorem dX1_join_39 : decode cX1_join 39 = .ok (.iastore, 1) := by decide +kernel
theorem dX1_join_40 : decode cX1_join 40 = .ok (.aload_n 0, 1) := by decide +kernel
theorem dX1_join_41 : decode cX1_join 41 = .ok (.getfield 49, 3) := by decide +kernel
theorem dX1_join_44 : decode cX1_join 44 = .ok (.iload_n 1, 1) := by decide +kernel
theorem dX1_join_45 : decode cX1_join 45 = .ok (.dup2, 1) := by decide +kernel
theorem dX1_join_46 : decode cX1_join 46 = .ok (.iaload, 1) := by decide +kernel
theorem dX1_join_47 : decode cX1_join 47 = .ok (.iconst 1, 1) := by decide +kernel
theorem dX1_join_48 : decode cX1_join 48 = .ok (.aload_n 0, 1) := by decide +kernel
theorem dX1_join_49 : decode cX1_join 49 = .ok (.getfield 9, 3) := by decide +kernel
theorem dX1_join_52 : decode cX1_join 52 = .ok (.ishl, 1) := by decide +kernel
theorem dX1_join_53 : decode cX1_join 53 = .ok (.ior, 1) := by decide +kernel
theorem dX1_join_54 : decode cX1_join 54 = .ok (.iastore, 1) := by decide +kernel
theorem dX1_join_55 : decode cX1_join 55 = .ok (.aload_n 0, 1) := by decide +kernel
theorem dX1_join_56 : decode cX1_join 56 = .ok (.getfield 49, 3) := by decide +kernel
theorem dX1_join_59 : decode cX1_join 59 = .ok (.iload_n 2, 1) := by decide +kernel
theorem dX1_join_60 : decode cX1_join 60 = .ok (.dup2, 1) := by decide +kernel
theorem dX1_join_61 : decode cX1_join 61 = .ok (.iaload, 1) := by decide +kernel
theorem dX1_join_62 : decode cX1_join 62 = .ok (.iconst 1, 1) := by decide +kernel
theorem dX1_join_63 : decode cX1_join 63 = .ok (.aload_n 0, 1) := by decide +kernel
theorem dX1_join_64 : decode cX1_join 64 = .ok (.getfield 9, 3) := by decide +kernel
theorem dX1_join_67 : decode cX1_join 67 = .ok (.ishl, 1) := by decide +kernel
theorem dX1_join_68 : decode cX1_join 68 = .ok (.ior, 1) := by decide +kernel
theorem dX1_join_69 : decode cX1_join 69 = .ok (.iastore, 1) := by decide +kernel
theorem dX1_join_70 : decode cX1_join 70 = .ok (.aload_n 0, 1) := by decide +kernel
theorem dX1_join_71 : decode cX1_join 71 = .ok (.dup, 1) := by decide +kernel
theorem dX1_join_72 : decode cX1_join 72 = .ok (.getfield 9, 3) := by decide +kernel
theorem dX1_join_75 : decode cX1_join 75 = .ok (.iconst 1, 1) := by decide +kernel
theorem dX1_join_76 : decode cX1_join 76 = .ok (.iadd, 1) := by decide +kernel
theorem dX1_join_77 : decode cX1_join 77 = .ok (.putfield 9, 3) := by decide +kernel
theorem dX1_join_80 : decode cX1_join 80 = .ok (.return_, 1) := by decide +kernel
theorem dX1_measure_0 : decode cX1_measure 0 = .ok (.iconst 0, 1) := by decide +kernel
theorem dX1_measure_1 : decode cX1_measure 1 = .ok (.istore_n 1, 1) := by decide +kernel
theorem dX1_measure_2 : decode cX1_measure 2 = .ok (.iload_n 1, 1) := by decide +kernel
theorem dX1_measure_3 : decode cX1_measure 3 = .ok (.aload_n 0, 1) := by decide +kernel
theorem dX1_measure_4 : decode cX1_measure 4 = .ok (.getfield 64, 3) := by decide +kernel
theorem dX1_measure_7 : decode cX1_measure 7 = .ok (.if_icmp .ge 48, 3) := by decide +kernel
theorem dX1_measure_10 : decode cX1_measure 10 = .ok (.aload_n 0, 1) := by decide +kernel
theorem dX1_measure_11 : decode cX1_measure 11 = .ok (.getfield 25, 3) := by decide +kernel
theorem dX1_measure_14 : decode cX1_measure 14 = .ok (.iload_n 1, 1) := by decide +kernel
theorem dX1_measure_15 : decode cX1_measure 15 = .ok (.iconst 1, 1) := by decide +kernel
theorem dX1_measure_16 : decode cX1_measure 16 = .ok (.iadd, 1) := by decide +kernel
theorem dX1_measure_17 : decode cX1_measure 17 = .ok (.aload_n 0, 1) := by decide +kernel
theorem dX1_measure_18 : decode cX1_measure 18 = .ok (.getfield 25, 3) := by decide +kernel
theorem dX1_measure_21 : decode cX1_measure 21 = .ok (.iload_n 1, 1) := by decide +kernel
theorem dX1_measure_22 : decode cX1_measure 22 = .ok (.iaload, 1) := by decide +kernel
theorem dX1_measure_23 : decode cX1_measure 23 = .ok (.aload_n 0, 1) := by decide +kernel
theorem dX1_measure_24 : decode cX1_measure 24 = .ok (.iload_n 1, 1) := by decide +kernel
theorem dX1_measure_25 : decode cX1_measure 25 = .ok (.invokevirtual 83, 3) := by decide +kernel
theorem dX1_measure_28 : decode cX1_measure 28 = .ok (.ifCond .eq 12, 3) := by decide +kernel
theorem dX1_measure_31 : decode cX1_measure 31 = .ok (.aload_n 0, 1) := by decide +kernel
theorem dX1_measure_32 : decode cX1_measure 32 = .ok (.getfield 22, 3) := by decide +kernel
theorem dX1_measure_35 : decode cX1_measure 35 = .ok (.iload_n 1, 1) := by decide +kernel
theorem dX1_measure_36 : decode cX1_measure 36 = .ok (.iaload, 1) := by decide +kernel
theorem dX1_measure_37 : decode cX1_measure 37 = .ok (.goto 10, 3) := by decide +kernel
theorem dX1_measure_40 : decode cX1_measure 40 = .ok (.aload_n 0, 1) := by decide +kernel
theorem dX1_measure_41 : decode cX1_measure 41 = .ok (.getfield 22, 3) := by decide +kernel
theorem dX1_measure_44 : decode cX1_measure 44 = .ok (.iload_n 1, 1) := by decide +kernel
theorem dX1_measure_45 : decode cX1_measure 45 = .ok (.iaload, 1) := by decide +kernel
theorem dX1_measure_46 : decode cX1_measure 46 = .ok (.ineg, 1) := by decide +kernel
theorem dX1_measure_47 : decode cX1_measure 47 = .ok (.iadd, 1) := by decide +kernel
theorem dX1_measure_48 : decode cX1_measure 48 = .ok (.iastore, 1) := by decide +kernel
theorem dX1_measure_49 : decode cX1_measure 49 = .ok (.iinc 1 1, 3) := by decide +kernel
theorem dX1_measure_52 : decode cX1_measure 52 = .ok (.goto (-50), 3) := by decide +kernel
theorem dX1_measure_55 : decode cX1_measure 55 = .ok (.iconst 0, 1) := by decide +kernel
theorem dX1_measure_56 : decode cX1_measure 56 = .ok (.istore_n 1, 1) := by decide +kernel
theorem dX1_measure_57 : decode cX1_measure 57 = .ok (.iload_n 1, 1) := by decide +kernel
theorem dX1_measure_58 : decode cX1_measure 58 = .ok (.aload_n 0, 1) := by decide +kernel
theorem dX1_measure_59 : decode cX1_measure 59 = .ok (.getfield 9, 3) := by decide +kernel
theorem dX1_measure_62 : decode cX1_measure 62 = .ok (.if_icmp .ge 44, 3) := by decide +kernel
theorem dX1_measure_65 : decode cX1_measure 65 = .ok (.aload_n 0, 1) := by decide +kernel
theorem dX1_measure_66 : decode cX1_measure 66 = .ok (.getfield 40, 3) := by decide +kernel
theorem dX1_measure_69 : decode cX1_measure 69 = .ok (.iload_n 1, 1) := by decide +kernel
theorem dX1_measure_70 : decode cX1_measure 70 = .ok (.aload_n 0, 1) := by decide +kernel
theorem dX1_measure_71 : decode cX1_measure 71 = .ok (.getfield 55, 3) := by decide +kernel
theorem dX1_measure_74 : decode cX1_measure 74 = .ok (.iconst 2, 1) := by decide +kernel
theorem dX1_measure_75 : decode cX1_measure 75 = .ok (.if_icmp .ne 11, 3) := by decide +kernel
theorem dX1_measure_78 : decode cX1_measure 78 = .ok (.aload_n 0, 1) := by decide +kernel
theorem dX1_measure_79 : decode cX1_measure 79 = .ok (.iload_n 1, 1) := by decide +kernel
theorem dX1_measure_80 : decode cX1_measure 80 = .ok (.invokevirtual 87, 3) := by decide +kernel
theorem dX1_measure_83 : decode cX1_measure 83 = .ok (.goto 16, 3) := by decide +kernel
theorem dX1_measure_86 : decode cX1_measure 86 = .ok (.aload_n 0, 1) := by decide +kernel
theorem dX1_measure_87 : decode cX1_measure 87 = .ok (.getfield 25, 3) := by decide +kernel
theorem dX1_measure_90 : decode cX1_measure 90 = .ok (.aload_n 0, 1) := by decide +kernel
theorem dX1_measure_91 : decode cX1_measure 91 = .ok (.getfield 28, 3) := by decide +kernel
theorem dX1_measure_94 : decode cX1_measure 94 = .ok (.iload_n 1, 1) := by decide +kernel
theorem dX1_measure_95 : decode cX1_measure 95 = .ok (.iaload, 1) := by decide +kernel
theorem dX1_measure_96 : decode cX1_measure 96 = .ok (.iconst 1, 1) := by decide +kernel
theorem dX1_measure_97 : decode cX1_measure 97 = .ok (.iadd, 1) := by decide +kernel
theorem dX1_measure_98 : decode cX1_measure 98 = .ok (.iaload, 1) := by decide +kernel
theorem dX1_measure_99 : decode cX1_measure 99 = .ok (.iastore, 1) := by decide +kernel
theorem dX1_measure_100 : decode cX1_measure 100 = .ok (.iinc 1 1, 3) := by decide +kernel
theorem dX1_measure_103 : decode cX1_measure 103 = .ok (.goto (-46), 3) := by decide +kernel
theorem dX1_measure_106 : decode cX1_measure 106 = .ok (.iconst 0, 1) := by decide +kernel
theorem dX1_measure_107 : decode cX1_measure 107 = .ok (.istore_n 1, 1) := by decide +kernel
theorem dX1_measure_108 : decode cX1_measure 108 = .ok (.iload_n 1, 1) := by decide +kernel
theorem dX1_measure_109 : decode cX1_measure 109 = .ok (.aload_n 0, 1) := by decide +kernel
theorem dX1_measure_110 : decode cX1_measure 110 = .ok (.getfield 9, 3) := by decide +kernel
theorem dX1_measure_113 : decode cX1_measure 113 = .ok (.if_icmp .ge 43, 3) := by decide +kernel
theorem dX1_measure_116 : decode cX1_measure 116 = .ok (.aload_n 0, 1) := by decide +kernel
theorem dX1_measure_117 : decode cX1_measure 117 = .ok (.getfield 43, 3) := by decide +kernel
theorem dX1_measure_120 : decode cX1_measure 120 = .ok (.iload_n 1, 1) := by decide +kernel
theorem dX1_measure_121 : decode cX1_measure 121 = .ok (.aload_n 0, 1) := by decide +kernel
theorem dX1_measure_122 : decode cX1_measure 122 = .ok (.getfield 55, 3) := by decide +kernel
theorem dX1_measure_125 : decode cX1_measure 125 = .ok (.iconst 2, 1) := by decide +kernel
theorem dX1_measure_126 : decode cX1_measure 126 = .ok (.if_icmp .ne 7, 3) := by decide +kernel
theorem dX1_measure_129 : decode cX1_measure 129 = .ok (.iconst 0, 1) := by decide +kernel
theorem dX1_measure_130 : decode cX1_measure 130 = .ok (.goto 8, 3) := by decide +kernel
theorem dX1_measure_133 : decode cX1_measure 133 = .ok (.aload_n 0, 1) := by decide +kernel
theorem dX1_measure_134 : decode cX1_measure 134 = .ok (.iload_n 1, 1) := by decide +kernel
theorem dX1_measure_135 : decode cX1_measure 135 = .ok (.invokevirtual 91, 3) := by decide +kernel
theorem dX1_measure_138 : decode cX1_measure 138 = .ok (.iastore, 1) := by decide +kernel
theorem dX1_measure_139 : decode cX1_measure 139 = .ok (.aload_n 0, 1) := by decide +kernel
theorem dX1_measure_140 : decode cX1_measure 140 = .ok (.getfield 46, 3) := by decide +kernel
theorem dX1_measure_143 : decode cX1_measure 143 = .ok (.iload_n 1, 1) := by decide +kernel
theorem dX1_measure_144 : decode cX1_measure 144 = .ok (.aload_n 0, 1) := by decide +kernel
theorem dX1_measure_145 : decode cX1_measure 145 = .ok (.iload_n 1, 1) := by decide +kernel
theorem dX1_measure_146 : decode cX1_measure 146 = .ok (.invokevirtual 94, 3) := by decide +kernel
theorem dX1_measure_149 : decode cX1_measure 149 = .ok (.iastore, 1) := by decide +kernel
theorem dX1_measure_150 : decode cX1_measure 150 = .ok (.iinc 1 1, 3) := by decide +kernel
theorem dX1_measure_153 : decode cX1_measure 153 = .ok (.goto (-45), 3) := by decide +kernel
theorem dX1_measure_156 : decode cX1_measure 156 = .ok (.return_, 1) := by decide +kernel
theorem dX1_sideOf_0 : decode cX1_sideOf 0 = .ok (.aload_n 0, 1) := by decide +kernel
theorem dX1_sideOf_1 : decode cX1_sideOf 1 = .ok (.getfield 28, 3) := by decide +kernel
theorem dX1_sideOf_4 : decode cX1_sideOf 4 = .ok (.iload_n 1, 1) := by decide +kernel
theorem dX1_sideOf_5 : decode cX1_sideOf 5 = .ok (.iaload, 1) := by decide +kernel
theorem dX1_sideOf_6 : decode cX1_sideOf 6 = .ok (.istore_n 2, 1) := by decide +kernel
theorem dX1_sideOf_7 : decode cX1_sideOf 7 = .ok (.aload_n 0, 1) := by decide +kernel
theorem dX1_sideOf_8 : decode cX1_sideOf 8 = .ok (.getfield 15, 3) := by decide +kernel
theorem dX1_sideOf_11 : decode cX1_sideOf 11 = .ok (.iload_n 2, 1) := by decide +kernel
theorem dX1_sideOf_12 : decode cX1_sideOf 12 = .ok (.iaload, 1) := by decide +kernel
theorem dX1_sideOf_13 : decode cX1_sideOf 13 = .ok (.aload_n 0, 1) := by decide +kernel
theorem dX1_sideOf_14 : decode cX1_sideOf 14 = .ok (.getfield 15, 3) := by decide +kernel
theorem dX1_sideOf_17 : decode cX1_sideOf 17 = .ok (.aload_n 0, 1) := by decide +kernel
theorem dX1_sideOf_18 : decode cX1_sideOf 18 = .ok (.getfield 31, 3) := by decide +kernel
theorem dX1_sideOf_21 : decode cX1_sideOf 21 = .ok (.iload_n 1, 1) := by decide +kernel
theorem dX1_sideOf_22 : decode cX1_sideOf 22 = .ok (.iaload, 1) := by decide +kernel
theorem dX1_sideOf_23 : decode cX1_sideOf 23 = .ok (.iaload, 1) := by decide +kernel
theorem dX1_sideOf_24 : decode cX1_sideOf 24 = .ok (.if_icmp .ne 7, 3) := by decide +kernel
theorem dX1_sideOf_27 : decode cX1_sideOf 27 = .ok (.iconst 1, 1) := by decide +kernel
theorem dX1_sideOf_28 : decode cX1_sideOf 28 = .ok (.goto 4, 3) := by decide +kernel
theorem dX1_sideOf_31 : decode cX1_sideOf 31 = .ok (.iconst 0, 1) := by decide +kernel
theorem dX1_sideOf_32 : decode cX1_sideOf 32 = .ok (.istore_n 3, 1) := by decide +kernel
theorem dX1_sideOf_33 : decode cX1_sideOf 33 = .ok (.iload_n 3, 1) := by decide +kernel
theorem dX1_sideOf_34 : decode cX1_sideOf 34 = .ok (.ifCond .eq 14, 3) := by decide +kernel
theorem dX1_sideOf_37 : decode cX1_sideOf 37 = .ok (.aload_n 0, 1) := by decide +kernel
theorem dX1_sideOf_38 : decode cX1_sideOf 38 = .ok (.getfield 19, 3) := by decide +kernel
theorem dX1_sideOf_41 : decode cX1_sideOf 41 = .ok (.iload_n 2, 1) := by decide +kernel
theorem dX1_sideOf_42 : decode cX1_sideOf 42 = .ok (.iaload, 1) := by decide +kernel
theorem dX1_sideOf_43 : decode cX1_sideOf 43 = .ok (.iconst 2, 1) := by decide +kernel
theorem dX1_sideOf_44 : decode cX1_sideOf 44 = .ok (.irem, 1) := by decide +kernel
theorem dX1_sideOf_45 : decode cX1_sideOf 45 = .ok (.goto 13, 3) := by decide +kernel
theorem dX1_sideOf_48 : decode cX1_sideOf 48 = .ok (.iconst 2, 1) := by decide +kernel
theorem dX1_sideOf_49 : decode cX1_sideOf 49 = .ok (.aload_n 0, 1) := by decide +kernel
theorem dX1_sideOf_50 : decode cX1_sideOf 50 = .ok (.getfield 15, 3) := by decide +kernel
theorem dX1_sideOf_53 : decode cX1_sideOf 53 = .ok (.iload_n 2, 1) := by decide +kernel
theorem dX1_sideOf_54 : decode cX1_sideOf 54 = .ok (.iaload, 1) := by decide +kernel
theorem dX1_sideOf_55 : decode cX1_sideOf 55 = .ok (.iconst 2, 1) := by decide +kernel
theorem dX1_sideOf_56 : decode cX1_sideOf 56 = .ok (.irem, 1) := by decide +kernel
theorem dX1_sideOf_57 : decode cX1_sideOf 57 = .ok (.iadd, 1) := by decide +kernel
theorem dX1_sideOf_58 : decode cX1_sideOf 58 = .ok (.ireturn, 1) := by decide +kernel
theorem dX1_facesOver_0 : decode cX1_facesOver 0 = .ok (.iconst 0, 1) := by decide +kernel
theorem dX1_facesOver_1 : decode cX1_facesOver 1 = .ok (.istore_n 2, 1) := by decide +kernel
theorem dX1_facesOver_2 : decode cX1_facesOver 2 = .ok (.iconst 0, 1) := by decide +kernel
theorem dX1_facesOver_3 : decode cX1_facesOver 3 = .ok (.istore_n 3, 1) := by decide +kernel
theorem dX1_facesOver_4 : decode cX1_facesOver 4 = .ok (.iload_n 3, 1) := by decide +kernel
theorem dX1_facesOver_5 : decode cX1_facesOver 5 = .ok (.aload_n 0, 1) := by decide +kernel
theorem dX1_facesOver_6 : decode cX1_facesOver 6 = .ok (.getfield 64, 3) := by decide +kernel
theorem dX1_facesOver_9 : decode cX1_facesOver 9 = .ok (.if_icmp .ge 73, 3) := by decide +kernel
theorem dX1_facesOver_12 : decode cX1_facesOver 12 = .ok (.iload_n 3, 1) := by decide +kernel
theorem dX1_facesOver_13 : decode cX1_facesOver 13 = .ok (.aload_n 0, 1) := by decide +kernel
theorem dX1_facesOver_14 : decode cX1_facesOver 14 = .ok (.getfield 28, 3) := by decide +kernel
theorem dX1_facesOver_17 : decode cX1_facesOver 17 = .ok (.iload_n 1, 1) := by decide +kernel
theorem dX1_facesOver_18 : decode cX1_facesOver 18 = .ok (.iaload, 1) := by decide +kernel
theorem dX1_facesOver_19 : decode cX1_facesOver 19 = .ok (.if_icmp .eq 17, 3) := by decide +kernel
theorem dX1_facesOver_22 : decode cX1_facesOver 22 = .ok (.iload_n 3, 1) := by decide +kernel
theorem dX1_facesOver_23 : decode cX1_facesOver 23 = .ok (.aload_n 0, 1) := by decide +kernel
theorem dX1_facesOver_24 : decode cX1_facesOver 24 = .ok (.getfield 31, 3) := by decide +kernel
theorem dX1_facesOver_27 : decode cX1_facesOver 27 = .ok (.iload_n 1, 1) := by decide +kernel
theorem dX1_facesOver_28 : decode cX1_facesOver 28 = .ok (.iaload, 1) := by decide +kernel
theorem dX1_facesOver_29 : decode cX1_facesOver 29 = .ok (.if_icmp .eq 7, 3) := by decide +kernel
theorem dX1_facesOver_32 : decode cX1_facesOver 32 = .ok (.iconst 1, 1) := by decide +kernel
theorem dX1_facesOver_33 : decode cX1_facesOver 33 = .ok (.goto 4, 3) := by decide +kernel
theorem dX1_facesOver_36 : decode cX1_facesOver 36 = .ok (.iconst 0, 1) := by decide +kernel
theorem dX1_facesOver_37 : decode cX1_facesOver 37 = .ok (.istore 4, 2) := by decide +kernel
theorem dX1_facesOver_39 : decode cX1_facesOver 39 = .ok (.iload 4, 2) := by decide +kernel
theorem dX1_facesOver_41 : decode cX1_facesOver 41 = .ok (.ifCond .eq 35, 3) := by decide +kernel
theorem dX1_facesOver_44 : decode cX1_facesOver 44 = .ok (.aload_n 0, 1) := by decide +kernel
theorem dX1_facesOver_45 : decode cX1_facesOver 45 = .ok (.getfield 40, 3) := by decide +kernel
theorem dX1_facesOver_48 : decode cX1_facesOver 48 = .ok (.iload_n 1, 1) := by decide +kernel
theorem dX1_facesOver_49 : decode cX1_facesOver 49 = .ok (.iaload, 1) := by decide +kernel
theorem dX1_facesOver_50 : decode cX1_facesOver 50 = .ok (.aload_n 0, 1) := by decide +kernel
theorem dX1_facesOver_51 : decode cX1_facesOver 51 = .ok (.getfield 25, 3) := by decide +kernel
theorem dX1_facesOver_54 : decode cX1_facesOver 54 = .ok (.iload_n 3, 1) := by decide +kernel
theorem dX1_facesOver_55 : decode cX1_facesOver 55 = .ok (.iaload, 1) := by decide +kernel
theorem dX1_facesOver_56 : decode cX1_facesOver 56 = .ok (.aload_n 0, 1) := by decide +kernel
theorem dX1_facesOver_57 : decode cX1_facesOver 57 = .ok (.getfield 25, 3) := by decide +kernel
theorem dX1_facesOver_60 : decode cX1_facesOver 60 = .ok (.iload_n 3, 1) := by decide +kernel
theorem dX1_facesOver_61 : decode cX1_facesOver 61 = .ok (.iconst 1, 1) := by decide +kernel
theorem dX1_facesOver_62 : decode cX1_facesOver 62 = .ok (.iadd, 1) := by decide +kernel
theorem dX1_facesOver_63 : decode cX1_facesOver 63 = .ok (.iaload, 1) := by decide +kernel
theorem dX1_facesOver_64 : decode cX1_facesOver 64 = .ok (.invokestatic 97, 3) := by decide +kernel
theorem dX1_facesOver_67 : decode cX1_facesOver 67 = .ok (.ifCond .eq 9, 3) := by decide +kernel
theorem dX1_facesOver_70 : decode cX1_facesOver 70 = .ok (.iload_n 2, 1) := by decide +kernel
theorem dX1_facesOver_71 : decode cX1_facesOver 71 = .ok (.iconst 1, 1) := by decide +kernel
theorem dX1_facesOver_72 : decode cX1_facesOver 72 = .ok (.iload_n 3, 1) := by decide +kernel
theorem dX1_facesOver_73 : decode cX1_facesOver 73 = .ok (.ishl, 1) := by decide +kernel
theorem dX1_facesOver_74 : decode cX1_facesOver 74 = .ok (.ior, 1) := by decide +kernel
theorem dX1_facesOver_75 : decode cX1_facesOver 75 = .ok (.istore_n 2, 1) := by decide +kernel
theorem dX1_facesOver_76 : decode cX1_facesOver 76 = .ok (.iinc 3 1, 3) := by decide +kernel
theorem dX1_facesOver_79 : decode cX1_facesOver 79 = .ok (.goto (-75), 3) := by decide +kernel
theorem dX1_facesOver_82 : decode cX1_facesOver 82 = .ok (.iload_n 2, 1) := by decide +kernel
theorem dX1_facesOver_83 : decode cX1_facesOver 83 = .ok (.ireturn, 1) := by decide +kernel
theorem dX1_rivalsOf_0 : decode cX1_rivalsOf 0 = .ok (.iconst 0, 1) := by decide +kernel
theorem dX1_rivalsOf_1 : decode cX1_rivalsOf 1 = .ok (.istore_n 2, 1) := by decide +kernel
theorem dX1_rivalsOf_2 : decode cX1_rivalsOf 2 = .ok (.iconst 0, 1) := by decide +kernel
theorem dX1_rivalsOf_3 : decode cX1_rivalsOf 3 = .ok (.istore_n 3, 1) := by decide +kernel
theorem dX1_rivalsOf_4 : decode cX1_rivalsOf 4 = .ok (.iload_n 3, 1) := by decide +kernel
theorem dX1_rivalsOf_5 : decode cX1_rivalsOf 5 = .ok (.aload_n 0, 1) := by decide +kernel
theorem dX1_rivalsOf_6 : decode cX1_rivalsOf 6 = .ok (.getfield 9, 3) := by decide +kernel
theorem dX1_rivalsOf_9 : decode cX1_rivalsOf 9 = .ok (.if_icmp .ge 53, 3) := by decide +kernel
theorem dX1_rivalsOf_12 : decode cX1_rivalsOf 12 = .ok (.iload_n 3, 1) := by decide +kernel
theorem dX1_rivalsOf_13 : decode cX1_rivalsOf 13 = .ok (.iload_n 1, 1) := by decide +kernel
theorem dX1_rivalsOf_14 : decode cX1_rivalsOf 14 = .ok (.if_icmp .eq 42, 3) := by decide +kernel
theorem dX1_rivalsOf_17 : decode cX1_rivalsOf 17 = .ok (.aload_n 0, 1) := by decide +kernel
theorem dX1_rivalsOf_18 : decode cX1_rivalsOf 18 = .ok (.getfield 40, 3) := by decide +kernel
theorem dX1_rivalsOf_21 : decode cX1_rivalsOf 21 = .ok (.iload_n 3, 1) := by decide +kernel
theorem dX1_rivalsOf_22 : decode cX1_rivalsOf 22 = .ok (.iaload, 1) := by decide +kernel
theorem dX1_rivalsOf_23 : decode cX1_rivalsOf 23 = .ok (.aload_n 0, 1) := by decide +kernel
theorem dX1_rivalsOf_24 : decode cX1_rivalsOf 24 = .ok (.getfield 40, 3) := by decide +kernel
theorem dX1_rivalsOf_27 : decode cX1_rivalsOf 27 = .ok (.iload_n 1, 1) := by decide +kernel
theorem dX1_rivalsOf_28 : decode cX1_rivalsOf 28 = .ok (.iaload, 1) := by decide +kernel
theorem dX1_rivalsOf_29 : decode cX1_rivalsOf 29 = .ok (.if_icmp .ne 27, 3) := by decide +kernel
theorem dX1_rivalsOf_32 : decode cX1_rivalsOf 32 = .ok (.aload_n 0, 1) := by decide +kernel
theorem dX1_rivalsOf_33 : decode cX1_rivalsOf 33 = .ok (.iload_n 3, 1) := by decide +kernel
theorem dX1_rivalsOf_34 : decode cX1_rivalsOf 34 = .ok (.iload_n 1, 1) := by decide +kernel
theorem dX1_rivalsOf_35 : decode cX1_rivalsOf 35 = .ok (.invokevirtual 101, 3) := by decide +kernel
theorem dX1_rivalsOf_38 : decode cX1_rivalsOf 38 = .ok (.ifCond .eq 18, 3) := by decide +kernel
theorem dX1_rivalsOf_41 : decode cX1_rivalsOf 41 = .ok (.aload_n 0, 1) := by decide +kernel
theorem dX1_rivalsOf_42 : decode cX1_rivalsOf 42 = .ok (.iload_n 3, 1) := by decide +kernel
theorem dX1_rivalsOf_43 : decode cX1_rivalsOf 43 = .ok (.iload_n 1, 1) := by decide +kernel
theorem dX1_rivalsOf_44 : decode cX1_rivalsOf 44 = .ok (.invokevirtual 105, 3) := by decide +kernel
theorem dX1_rivalsOf_47 : decode cX1_rivalsOf 47 = .ok (.ifCond .eq 9, 3) := by decide +kernel
theorem dX1_rivalsOf_50 : decode cX1_rivalsOf 50 = .ok (.iload_n 2, 1) := by decide +kernel
theorem dX1_rivalsOf_51 : decode cX1_rivalsOf 51 = .ok (.iconst 1, 1) := by decide +kernel
theorem dX1_rivalsOf_52 : decode cX1_rivalsOf 52 = .ok (.iload_n 3, 1) := by decide +kernel
theorem dX1_rivalsOf_53 : decode cX1_rivalsOf 53 = .ok (.ishl, 1) := by decide +kernel
theorem dX1_rivalsOf_54 : decode cX1_rivalsOf 54 = .ok (.ior, 1) := by decide +kernel
theorem dX1_rivalsOf_55 : decode cX1_rivalsOf 55 = .ok (.istore_n 2, 1) := by decide +kernel
theorem dX1_rivalsOf_56 : decode cX1_rivalsOf 56 = .ok (.iinc 3 1, 3) := by decide +kernel
theorem dX1_rivalsOf_59 : decode cX1_rivalsOf 59 = .ok (.goto (-55), 3) := by decide +kernel
theorem dX1_rivalsOf_62 : decode cX1_rivalsOf 62 = .ok (.iload_n 2, 1) := by decide +kernel
theorem dX1_rivalsOf_63 : decode cX1_rivalsOf 63 = .ok (.ireturn, 1) := by decide +kernel
theorem dX1_onOneSide_0 : decode cX1_onOneSide 0 = .ok (.aload_n 0, 1) := by decide +kernel
theorem dX1_onOneSide_1 : decode cX1_onOneSide 1 = .ok (.getfield 55, 3) := by decide +kernel
theorem dX1_onOneSide_4 : decode cX1_onOneSide 4 = .ok (.iconst 2, 1) := by decide +kernel
theorem dX1_onOneSide_5 : decode cX1_onOneSide 5 = .ok (.if_icmp .eq 26, 3) := by decide +kernel
theorem dX1_onOneSide_8 : decode cX1_onOneSide 8 = .ok (.aload_n 0, 1) := by decide +kernel
theorem dX1_onOneSide_9 : decode cX1_onOneSide 9 = .ok (.aload_n 0, 1) := by decide +kernel
theorem dX1_onOneSide_10 : decode cX1_onOneSide 10 = .ok (.getfield 28, 3) := by decide +kernel
theorem dX1_onOneSide_13 : decode cX1_onOneSide 13 = .ok (.iload_n 1, 1) := by decide +kernel
theorem dX1_onOneSide_14 : decode cX1_onOneSide 14 = .ok (.iaload, 1) := by decide +kernel
theorem dX1_onOneSide_15 : decode cX1_onOneSide 15 = .ok (.invokevirtual 83, 3) := by decide +kernel
theorem dX1_onOneSide_18 : decode cX1_onOneSide 18 = .ok (.aload_n 0, 1) := by decide +kernel
theorem dX1_onOneSide_19 : decode cX1_onOneSide 19 = .ok (.aload_n 0, 1) := by decide +kernel
theorem dX1_onOneSide_20 : decode cX1_onOneSide 20 = .ok (.getfield 28, 3) := by decide +kernel
theorem dX1_onOneSide_23 : decode cX1_onOneSide 23 = .ok (.iload_n 2, 1) := by decide +kernel
theorem dX1_onOneSide_24 : decode cX1_onOneSide 24 = .ok (.iaload, 1) := by decide +kernel
theorem dX1_onOneSide_25 : decode cX1_onOneSide 25 = .ok (.invokevirtual 83, 3) := by decide +kernel
theorem dX1_onOneSide_28 : decode cX1_onOneSide 28 = .ok (.if_icmp .ne 7, 3) := by decide +kernel
theorem dX1_onOneSide_31 : decode cX1_onOneSide 31 = .ok (.iconst 1, 1) := by decide +kernel
theorem dX1_onOneSide_32 : decode cX1_onOneSide 32 = .ok (.goto 4, 3) := by decide +kernel
theorem dX1_onOneSide_35 : decode cX1_onOneSide 35 = .ok (.iconst 0, 1) := by decide +kernel
theorem dX1_onOneSide_36 : decode cX1_onOneSide 36 = .ok (.ireturn, 1) := by decide +kernel
theorem dX1_haveFourFaces_0 : decode cX1_haveFourFaces 0 = .ok (.aload_n 0, 1) := by decide +kernel
theorem dX1_haveFourFaces_1 : decode cX1_haveFourFaces 1 = .ok (.getfield 28, 3) := by decide +kernel
theorem dX1_haveFourFaces_4 : decode cX1_haveFourFaces 4 = .ok (.iload_n 1, 1) := by decide +kernel
theorem dX1_haveFourFaces_5 : decode cX1_haveFourFaces 5 = .ok (.iaload, 1) := by decide +kernel
theorem dX1_haveFourFaces_6 : decode cX1_haveFourFaces 6 = .ok (.aload_n 0, 1) := by decide +kernel
theorem dX1_haveFourFaces_7 : decode cX1_haveFourFaces 7 = .ok (.getfield 28, 3) := by decide +kernel
theorem dX1_haveFourFaces_10 : decode cX1_haveFourFaces 10 = .ok (.iload_n 2, 1) := by decide +kernel
theorem dX1_haveFourFaces_11 : decode cX1_haveFourFaces 11 = .ok (.iaload, 1) := by decide +kernel
theorem dX1_haveFourFaces_12 : decode cX1_haveFourFaces 12 = .ok (.if_icmp .eq 22, 3) := by decide +kernel
theorem dX1_haveFourFaces_15 : decode cX1_haveFourFaces 15 = .ok (.aload_n 0, 1) := by decide +kernel
theorem dX1_haveFourFaces_16 : decode cX1_haveFourFaces 16 = .ok (.getfield 28, 3) := by decide +kernel
theorem dX1_haveFourFaces_19 : decode cX1_haveFourFaces 19 = .ok (.iload_n 1, 1) := by decide +kernel
theorem dX1_haveFourFaces_20 : decode cX1_haveFourFaces 20 = .ok (.iaload, 1) := by decide +kernel
theorem dX1_haveFourFaces_21 : decode cX1_haveFourFaces 21 = .ok (.aload_n 0, 1) := by decide +kernel
theorem dX1_haveFourFaces_22 : decode cX1_haveFourFaces 22 = .ok (.getfield 31, 3) := by decide +kernel
theorem dX1_haveFourFaces_25 : decode cX1_haveFourFaces 25 = .ok (.iload_n 2, 1) := by decide +kernel
theorem dX1_haveFourFaces_26 : decode cX1_haveFourFaces 26 = .ok (.iaload, 1) := by decide +kernel
theorem dX1_haveFourFaces_27 : decode cX1_haveFourFaces 27 = .ok (.if_icmp .eq 7, 3) := by decide +kernel
theorem dX1_haveFourFaces_30 : decode cX1_haveFourFaces 30 = .ok (.iconst 1, 1) := by decide +kernel
theorem dX1_haveFourFaces_31 : decode cX1_haveFourFaces 31 = .ok (.goto 4, 3) := by decide +kernel
theorem dX1_haveFourFaces_34 : decode cX1_haveFourFaces 34 = .ok (.iconst 0, 1) := by decide +kernel
theorem dX1_haveFourFaces_35 : decode cX1_haveFourFaces 35 = .ok (.istore_n 3, 1) := by decide +kernel
theorem dX1_haveFourFaces_36 : decode cX1_haveFourFaces 36 = .ok (.iload_n 3, 1) := by decide +kernel
theorem dX1_haveFourFaces_37 : decode cX1_haveFourFaces 37 = .ok (.ifCond .eq 37, 3) := by decide +kernel
theorem dX1_haveFourFaces_40 : decode cX1_haveFourFaces 40 = .ok (.aload_n 0, 1) := by decide +kernel
theorem dX1_haveFourFaces_41 : decode cX1_haveFourFaces 41 = .ok (.getfield 31, 3) := by decide +kernel
theorem dX1_haveFourFaces_44 : decode cX1_haveFourFaces 44 = .ok (.iload_n 1, 1) := by decide +kernel
theorem dX1_haveFourFaces_45 : decode cX1_haveFourFaces 45 = .ok (.iaload, 1) := by decide +kernel
theorem dX1_haveFourFaces_46 : decode cX1_haveFourFaces 46 = .ok (.aload_n 0, 1) := by decide +kernel
theorem dX1_haveFourFaces_47 : decode cX1_haveFourFaces 47 = .ok (.getfield 28, 3) := by decide +kernel
theorem dX1_haveFourFaces_50 : decode cX1_haveFourFaces 50 = .ok (.iload_n 2, 1) := by decide +kernel
theorem dX1_haveFourFaces_51 : decode cX1_haveFourFaces 51 = .ok (.iaload, 1) := by decide +kernel
theorem dX1_haveFourFaces_52 : decode cX1_haveFourFaces 52 = .ok (.if_icmp .eq 22, 3) := by decide +kernel
theorem dX1_haveFourFaces_55 : decode cX1_haveFourFaces 55 = .ok (.aload_n 0, 1) := by decide +kernel
theorem dX1_haveFourFaces_56 : decode cX1_haveFourFaces 56 = .ok (.getfield 31, 3) := by decide +kernel
theorem dX1_haveFourFaces_59 : decode cX1_haveFourFaces 59 = .ok (.iload_n 1, 1) := by decide +kernel
theorem dX1_haveFourFaces_60 : decode cX1_haveFourFaces 60 = .ok (.iaload, 1) := by decide +kernel
theorem dX1_haveFourFaces_61 : decode cX1_haveFourFaces 61 = .ok (.aload_n 0, 1) := by decide +kernel
theorem dX1_haveFourFaces_62 : decode cX1_haveFourFaces 62 = .ok (.getfield 31, 3) := by decide +kernel
theorem dX1_haveFourFaces_65 : decode cX1_haveFourFaces 65 = .ok (.iload_n 2, 1) := by decide +kernel
theorem dX1_haveFourFaces_66 : decode cX1_haveFourFaces 66 = .ok (.iaload, 1) := by decide +kernel
theorem dX1_haveFourFaces_67 : decode cX1_haveFourFaces 67 = .ok (.if_icmp .eq 7, 3) := by decide +kernel
theorem dX1_haveFourFaces_70 : decode cX1_haveFourFaces 70 = .ok (.iconst 1, 1) := by decide +kernel
theorem dX1_haveFourFaces_71 : decode cX1_haveFourFaces 71 = .ok (.goto 4, 3) := by decide +kernel
theorem dX1_haveFourFaces_74 : decode cX1_haveFourFaces 74 = .ok (.iconst 0, 1) := by decide +kernel
theorem dX1_haveFourFaces_75 : decode cX1_haveFourFaces 75 = .ok (.ireturn, 1) := by decide +kernel
theorem dX1_hasFace_0 : decode cX1_hasFace 0 = .ok (.iload_n 1, 1) := by decide +kernel
theorem dX1_hasFace_1 : decode cX1_hasFace 1 = .ok (.ifCond .lt 15, 3) := by decide +kernel
theorem dX1_hasFace_4 : decode cX1_hasFace 4 = .ok (.iload_n 1, 1) := by decide +kernel
theorem dX1_hasFace_5 : decode cX1_hasFace 5 = .ok (.aload_n 0, 1) := by decide +kernel
theorem dX1_hasFace_6 : decode cX1_hasFace 6 = .ok (.getfield 64, 3) := by decide +kernel
theorem dX1_hasFace_9 : decode cX1_hasFace 9 = .ok (.if_icmp .ge 7, 3) := by decide +kernel
theorem dX1_hasFace_12 : decode cX1_hasFace 12 = .ok (.iconst 1, 1) := by decide +kernel
theorem dX1_hasFace_13 : decode cX1_hasFace 13 = .ok (.goto 4, 3) := by decide +kernel
theorem dX1_hasFace_16 : decode cX1_hasFace 16 = .ok (.iconst 0, 1) := by decide +kernel
theorem dX1_hasFace_17 : decode cX1_hasFace 17 = .ok (.ireturn, 1) := by decide +kernel
theorem dX1_hasCrease_0 : decode cX1_hasCrease 0 = .ok (.iload_n 1, 1) := by decide +kernel
theorem dX1_hasCrease_1 : decode cX1_hasCrease 1 = .ok (.ifCond .lt 15, 3) := by decide +kernel
theorem dX1_hasCrease_4 : decode cX1_hasCrease 4 = .ok (.iload_n 1, 1) := by decide +kernel
theorem dX1_hasCrease_5 : decode cX1_hasCrease 5 = .ok (.aload_n 0, 1) := by decide +kernel
theorem dX1_hasCrease_6 : decode cX1_hasCrease 6 = .ok (.getfield 9, 3) := by decide +kernel
theorem dX1_hasCrease_9 : decode cX1_hasCrease 9 = .ok (.if_icmp .ge 7, 3) := by decide +kernel
theorem dX1_hasCrease_12 : decode cX1_hasCrease 12 = .ok (.iconst 1, 1) := by decide +kernel
theorem dX1_hasCrease_13 : decode cX1_hasCrease 13 = .ok (.goto 4, 3) := by decide +kernel
theorem dX1_hasCrease_16 : decode cX1_hasCrease 16 = .ok (.iconst 0, 1) := by decide +kernel
theorem dX1_hasCrease_17 : decode cX1_hasCrease 17 = .ok (.ireturn, 1) := by decide +kernel
theorem dX1_isFrontUp_0 : decode cX1_isFrontUp 0 = .ok (.aload_n 0, 1) := by decide +kernel
theorem dX1_isFrontUp_1 : decode cX1_isFrontUp 1 = .ok (.getfield 15, 3) := by decide +kernel
theorem dX1_isFrontUp_4 : decode cX1_isFrontUp 4 = .ok (.iload_n 1, 1) := by decide +kernel
theorem dX1_isFrontUp_5 : decode cX1_isFrontUp 5 = .ok (.iaload, 1) := by decide +kernel
theorem dX1_isFrontUp_6 : decode cX1_isFrontUp 6 = .ok (.aload_n 0, 1) := by decide +kernel
theorem dX1_isFrontUp_7 : decode cX1_isFrontUp 7 = .ok (.getfield 19, 3) := by decide +kernel
theorem dX1_isFrontUp_10 : decode cX1_isFrontUp 10 = .ok (.iload_n 1, 1) := by decide +kernel
theorem dX1_isFrontUp_11 : decode cX1_isFrontUp 11 = .ok (.iaload, 1) := by decide +kernel
theorem dX1_isFrontUp_12 : decode cX1_isFrontUp 12 = .ok (.iadd, 1) := by decide +kernel
theorem dX1_isFrontUp_13 : decode cX1_isFrontUp 13 = .ok (.iconst 2, 1) := by decide +kernel
theorem dX1_isFrontUp_14 : decode cX1_isFrontUp 14 = .ok (.irem, 1) := by decide +kernel
theorem dX1_isFrontUp_15 : decode cX1_isFrontUp 15 = .ok (.ifCond .ne 7, 3) := by decide +kernel
theorem dX1_isFrontUp_18 : decode cX1_isFrontUp 18 = .ok (.iconst 1, 1) := by decide +kernel
theorem dX1_isFrontUp_19 : decode cX1_isFrontUp 19 = .ok (.goto 4, 3) := by decide +kernel
theorem dX1_isFrontUp_22 : decode cX1_isFrontUp 22 = .ok (.iconst 0, 1) := by decide +kernel
theorem dX1_isFrontUp_23 : decode cX1_isFrontUp 23 = .ok (.ireturn, 1) := by decide +kernel
theorem dX1_isUneven_0 : decode cX1_isUneven 0 = .ok (.aload_n 0, 1) := by decide +kernel
theorem dX1_isUneven_1 : decode cX1_isUneven 1 = .ok (.getfield 55, 3) := by decide +kernel
theorem dX1_isUneven_4 : decode cX1_isUneven 4 = .ok (.iconst 1, 1) := by decide +kernel
theorem dX1_isUneven_5 : decode cX1_isUneven 5 = .ok (.if_icmp .ne 28, 3) := by decide +kernel
theorem dX1_isUneven_8 : decode cX1_isUneven 8 = .ok (.aload_n 0, 1) := by decide +kernel
theorem dX1_isUneven_9 : decode cX1_isUneven 9 = .ok (.getfield 64, 3) := by decide +kernel
theorem dX1_isUneven_12 : decode cX1_isUneven 12 = .ok (.iconst 2, 1) := by decide +kernel
theorem dX1_isUneven_13 : decode cX1_isUneven 13 = .ok (.irem, 1) := by decide +kernel
theorem dX1_isUneven_14 : decode cX1_isUneven 14 = .ok (.ifCond .ne 15, 3) := by decide +kernel
theorem dX1_isUneven_17 : decode cX1_isUneven 17 = .ok (.aload_n 0, 1) := by decide +kernel
theorem dX1_isUneven_18 : decode cX1_isUneven 18 = .ok (.getfield 25, 3) := by decide +kernel
theorem dX1_isUneven_21 : decode cX1_isUneven 21 = .ok (.aload_n 0, 1) := by decide +kernel
theorem dX1_isUneven_22 : decode cX1_isUneven 22 = .ok (.getfield 64, 3) := by decide +kernel
theorem dX1_isUneven_25 : decode cX1_isUneven 25 = .ok (.iaload, 1) := by decide +kernel
theorem dX1_isUneven_26 : decode cX1_isUneven 26 = .ok (.ifCond .eq 7, 3) := by decide +kernel
theorem dX1_isUneven_29 : decode cX1_isUneven 29 = .ok (.iconst 1, 1) := by decide +kernel
theorem dX1_isUneven_30 : decode cX1_isUneven 30 = .ok (.goto 4, 3) := by decide +kernel
theorem dX1_isUneven_33 : decode cX1_isUneven 33 = .ok (.iconst 0, 1) := by decide +kernel
theorem dX1_isUneven_34 : decode cX1_isUneven 34 = .ok (.ireturn, 1) := by decide +kernel
theorem dX1_marked_0 : decode cX1_marked 0 = .ok (.iconst 0, 1) := by decide +kernel
theorem dX1_marked_1 : decode cX1_marked 1 = .ok (.istore_n 2, 1) := by decide +kernel
theorem dX1_marked_2 : decode cX1_marked 2 = .ok (.iconst 0, 1) := by decide +kernel
theorem dX1_marked_3 : decode cX1_marked 3 = .ok (.istore_n 3, 1) := by decide +kernel
theorem dX1_marked_4 : decode cX1_marked 4 = .ok (.iload_n 3, 1) := by decide +kernel
theorem dX1_marked_5 : decode cX1_marked 5 = .ok (.aload_n 0, 1) := by decide +kernel
theorem dX1_marked_6 : decode cX1_marked 6 = .ok (.getfield 9, 3) := by decide +kernel
theorem dX1_marked_9 : decode cX1_marked 9 = .ok (.if_icmp .ge 25, 3) := by decide +kernel
theorem dX1_marked_12 : decode cX1_marked 12 = .ok (.aload_n 0, 1) := by decide +kernel
theorem dX1_marked_13 : decode cX1_marked 13 = .ok (.getfield 37, 3) := by decide +kernel
theorem dX1_marked_16 : decode cX1_marked 16 = .ok (.iload_n 3, 1) := by decide +kernel
theorem dX1_marked_17 : decode cX1_marked 17 = .ok (.iaload, 1) := by decide +kernel
theorem dX1_marked_18 : decode cX1_marked 18 = .ok (.iload_n 1, 1) := by decide +kernel
theorem dX1_marked_19 : decode cX1_marked 19 = .ok (.if_icmp .ne 9, 3) := by decide +kernel
theorem dX1_marked_22 : decode cX1_marked 22 = .ok (.iload_n 2, 1) := by decide +kernel
theorem dX1_marked_23 : decode cX1_marked 23 = .ok (.iconst 1, 1) := by decide +kernel
theorem dX1_marked_24 : decode cX1_marked 24 = .ok (.iload_n 3, 1) := by decide +kernel
theorem dX1_marked_25 : decode cX1_marked 25 = .ok (.ishl, 1) := by decide +kernel
theorem dX1_marked_26 : decode cX1_marked 26 = .ok (.ior, 1) := by decide +kernel
theorem dX1_marked_27 : decode cX1_marked 27 = .ok (.istore_n 2, 1) := by decide +kernel
theorem dX1_marked_28 : decode cX1_marked 28 = .ok (.iinc 3 1, 3) := by decide +kernel
theorem dX1_marked_31 : decode cX1_marked 31 = .ok (.goto (-27), 3) := by decide +kernel
theorem dX1_marked_34 : decode cX1_marked 34 = .ok (.iload_n 2, 1) := by decide +kernel
theorem dX1_marked_35 : decode cX1_marked 35 = .ok (.ireturn, 1) := by decide +kernel
theorem dX1_becomes_0 : decode cX1_becomes 0 = .ok (.aload_n 2, 1) := by decide +kernel
theorem dX1_becomes_1 : decode cX1_becomes 1 = .ok (.aload_n 0, 1) := by decide +kernel
theorem dX1_becomes_2 : decode cX1_becomes 2 = .ok (.getfield 31, 3) := by decide +kernel
theorem dX1_becomes_5 : decode cX1_becomes 5 = .ok (.iload_n 1, 1) := by decide +kernel
theorem dX1_becomes_6 : decode cX1_becomes 6 = .ok (.iaload, 1) := by decide +kernel
theorem dX1_becomes_7 : decode cX1_becomes 7 = .ok (.iaload, 1) := by decide +kernel
theorem dX1_becomes_8 : decode cX1_becomes 8 = .ok (.aload_n 2, 1) := by decide +kernel
theorem dX1_becomes_9 : decode cX1_becomes 9 = .ok (.aload_n 0, 1) := by decide +kernel
theorem dX1_becomes_10 : decode cX1_becomes 10 = .ok (.getfield 28, 3) := by decide +kernel
theorem dX1_becomes_13 : decode cX1_becomes 13 = .ok (.iload_n 1, 1) := by decide +kernel
theorem dX1_becomes_14 : decode cX1_becomes 14 = .ok (.iaload, 1) := by decide +kernel
theorem dX1_becomes_15 : decode cX1_becomes 15 = .ok (.iaload, 1) := by decide +kernel
theorem dX1_becomes_16 : decode cX1_becomes 16 = .ok (.if_icmp .le 7, 3) := by decide +kernel
theorem dX1_becomes_19 : decode cX1_becomes 19 = .ok (.iconst 1, 1) := by decide +kernel
theorem dX1_becomes_20 : decode cX1_becomes 20 = .ok (.goto 4, 3) := by decide +kernel
theorem dX1_becomes_23 : decode cX1_becomes 23 = .ok (.iconst 0, 1) := by decide +kernel
theorem dX1_becomes_24 : decode cX1_becomes 24 = .ok (.istore_n 3, 1) := by decide +kernel
theorem dX1_becomes_25 : decode cX1_becomes 25 = .ok (.iload_n 3, 1) := by decide +kernel
theorem dX1_becomes_26 : decode cX1_becomes 26 = .ok (.aload_n 0, 1) := by decide +kernel
theorem dX1_becomes_27 : decode cX1_becomes 27 = .ok (.aload_n 0, 1) := by decide +kernel
theorem dX1_becomes_28 : decode cX1_becomes 28 = .ok (.getfield 28, 3) := by decide +kernel
theorem dX1_becomes_31 : decode cX1_becomes 31 = .ok (.iload_n 1, 1) := by decide +kernel
theorem dX1_becomes_32 : decode cX1_becomes 32 = .ok (.iaload, 1) := by decide +kernel
theorem dX1_becomes_33 : decode cX1_becomes 33 = .ok (.invokevirtual 83, 3) := by decide +kernel
theorem dX1_becomes_36 : decode cX1_becomes 36 = .ok (.if_icmp .ne 7, 3) := by decide +kernel
theorem dX1_becomes_39 : decode cX1_becomes 39 = .ok (.iconst 2, 1) := by decide +kernel
theorem dX1_becomes_40 : decode cX1_becomes 40 = .ok (.goto 4, 3) := by decide +kernel
theorem dX1_becomes_43 : decode cX1_becomes 43 = .ok (.iconst 1, 1) := by decide +kernel
theorem dX1_becomes_44 : decode cX1_becomes 44 = .ok (.ireturn, 1) := by decide +kernel
theorem dX1_valleysIn_0 : decode cX1_valleysIn 0 = .ok (.iconst 0, 1) := by decide +kernel
theorem dX1_valleysIn_1 : decode cX1_valleysIn 1 = .ok (.istore_n 2, 1) := by decide +kernel
theorem dX1_valleysIn_2 : decode cX1_valleysIn 2 = .ok (.iconst 0, 1) := by decide +kernel
theorem dX1_valleysIn_3 : decode cX1_valleysIn 3 = .ok (.istore_n 3, 1) := by decide +kernel
theorem dX1_valleysIn_4 : decode cX1_valleysIn 4 = .ok (.iload_n 3, 1) := by decide +kernel
theorem dX1_valleysIn_5 : decode cX1_valleysIn 5 = .ok (.aload_n 0, 1) := by decide +kernel
theorem dX1_valleysIn_6 : decode cX1_valleysIn 6 = .ok (.getfield 9, 3) := by decide +kernel
theorem dX1_valleysIn_9 : decode cX1_valleysIn 9 = .ok (.if_icmp .ge 25, 3) := by decide +kernel
theorem dX1_valleysIn_12 : decode cX1_valleysIn 12 = .ok (.aload_n 0, 1) := by decide +kernel
theorem dX1_valleysIn_13 : decode cX1_valleysIn 13 = .ok (.iload_n 3, 1) := by decide +kernel
theorem dX1_valleysIn_14 : decode cX1_valleysIn 14 = .ok (.aload_n 1, 1) := by decide +kernel
theorem dX1_valleysIn_15 : decode cX1_valleysIn 15 = .ok (.invokevirtual 108, 3) := by decide +kernel
theorem dX1_valleysIn_18 : decode cX1_valleysIn 18 = .ok (.iconst 2, 1) := by decide +kernel
theorem dX1_valleysIn_19 : decode cX1_valleysIn 19 = .ok (.if_icmp .ne 9, 3) := by decide +kernel
theorem dX1_valleysIn_22 : decode cX1_valleysIn 22 = .ok (.iload_n 2, 1) := by decide +kernel
theorem dX1_valleysIn_23 : decode cX1_valleysIn 23 = .ok (.iconst 1, 1) := by decide +kernel
theorem dX1_valleysIn_24 : decode cX1_valleysIn 24 = .ok (.iload_n 3, 1) := by decide +kernel
theorem dX1_valleysIn_25 : decode cX1_valleysIn 25 = .ok (.ishl, 1) := by decide +kernel
theorem dX1_valleysIn_26 : decode cX1_valleysIn 26 = .ok (.ior, 1) := by decide +kernel
theorem dX1_valleysIn_27 : decode cX1_valleysIn 27 = .ok (.istore_n 2, 1) := by decide +kernel
theorem dX1_valleysIn_28 : decode cX1_valleysIn 28 = .ok (.iinc 3 1, 3) := by decide +kernel
theorem dX1_valleysIn_31 : decode cX1_valleysIn 31 = .ok (.goto (-27), 3) := by decide +kernel
theorem dX1_valleysIn_34 : decode cX1_valleysIn 34 = .ok (.iload_n 2, 1) := by decide +kernel
theorem dX1_valleysIn_35 : decode cX1_valleysIn 35 = .ok (.ireturn, 1) := by decide +kernel
theorem dX1_brokenMark_0 : decode cX1_brokenMark 0 = .ok (.iconst 0, 1) := by decide +kernel
theorem dX1_brokenMark_1 : decode cX1_brokenMark 1 = .ok (.istore_n 2, 1) := by decide +kernel
theorem dX1_brokenMark_2 : decode cX1_brokenMark 2 = .ok (.iload_n 2, 1) := by decide +kernel
theorem dX1_brokenMark_3 : decode cX1_brokenMark 3 = .ok (.aload_n 0, 1) := by decide +kernel
theorem dX1_brokenMark_4 : decode cX1_brokenMark 4 = .ok (.getfield 9, 3) := by decide +kernel
theorem dX1_brokenMark_7 : decode cX1_brokenMark 7 = .ok (.if_icmp .ge 42, 3) := by decide +kernel
theorem dX1_brokenMark_10 : decode cX1_brokenMark 10 = .ok (.aload_n 0, 1) := by decide +kernel
theorem dX1_brokenMark_11 : decode cX1_brokenMark 11 = .ok (.getfield 37, 3) := by decide +kernel
theorem dX1_brokenMark_14 : decode cX1_brokenMark 14 = .ok (.iload_n 2, 1) := by decide +kernel
theorem dX1_brokenMark_15 : decode cX1_brokenMark 15 = .ok (.iaload, 1) := by decide +kernel
theorem dX1_brokenMark_16 : decode cX1_brokenMark 16 = .ok (.ifCond .eq 27, 3) := by decide +kernel
theorem dX1_brokenMark_19 : decode cX1_brokenMark 19 = .ok (.aload_n 0, 1) := by decide +kernel
theorem dX1_brokenMark_20 : decode cX1_brokenMark 20 = .ok (.getfield 37, 3) := by decide +kernel
theorem dX1_brokenMark_23 : decode cX1_brokenMark 23 = .ok (.iload_n 2, 1) := by decide +kernel
theorem dX1_brokenMark_24 : decode cX1_brokenMark 24 = .ok (.iaload, 1) := by decide +kernel
theorem dX1_brokenMark_25 : decode cX1_brokenMark 25 = .ok (.aload_n 0, 1) := by decide +kernel
theorem dX1_brokenMark_26 : decode cX1_brokenMark 26 = .ok (.iload_n 2, 1) := by decide +kernel
theorem dX1_brokenMark_27 : decode cX1_brokenMark 27 = .ok (.aload_n 1, 1) := by decide +kernel
theorem dX1_brokenMark_28 : decode cX1_brokenMark 28 = .ok (.invokevirtual 108, 3) := by decide +kernel
theorem dX1_brokenMark_31 : decode cX1_brokenMark 31 = .ok (.if_icmp .eq 12, 3) := by decide +kernel
theorem dX1_brokenMark_34 : decode cX1_brokenMark 34 = .ok (.sipush 10000, 3) := by decide +kernel
theorem dX1_brokenMark_37 : decode cX1_brokenMark 37 = .ok (.bipush 100, 2) := by decide +kernel
theorem dX1_brokenMark_39 : decode cX1_brokenMark 39 = .ok (.iload_n 2, 1) := by decide +kernel
theorem dX1_brokenMark_40 : decode cX1_brokenMark 40 = .ok (.imul, 1) := by decide +kernel
theorem dX1_brokenMark_41 : decode cX1_brokenMark 41 = .ok (.iadd, 1) := by decide +kernel
theorem dX1_brokenMark_42 : decode cX1_brokenMark 42 = .ok (.ireturn, 1) := by decide +kernel
theorem dX1_brokenMark_43 : decode cX1_brokenMark 43 = .ok (.iinc 2 1, 3) := by decide +kernel
theorem dX1_brokenMark_46 : decode cX1_brokenMark 46 = .ok (.goto (-44), 3) := by decide +kernel
theorem dX1_brokenMark_49 : decode cX1_brokenMark 49 = .ok (.iconst 0, 1) := by decide +kernel
theorem dX1_brokenMark_50 : decode cX1_brokenMark 50 = .ok (.ireturn, 1) := by decide +kernel
theorem dX1_brokenThrough_0 : decode cX1_brokenThrough 0 = .ok (.iconst 0, 1) := by decide +kernel
theorem dX1_brokenThrough_1 : decode cX1_brokenThrough 1 = .ok (.istore_n 2, 1) := by decide +kernel
theorem dX1_brokenThrough_2 : decode cX1_brokenThrough 2 = .ok (.iload_n 2, 1) := by decide +kernel
theorem dX1_brokenThrough_3 : decode cX1_brokenThrough 3 = .ok (.aload_n 0, 1) := by decide +kernel
theorem dX1_brokenThrough_4 : decode cX1_brokenThrough 4 = .ok (.getfield 9, 3) := by decide +kernel
theorem dX1_brokenThrough_7 : decode cX1_brokenThrough 7 = .ok (.if_icmp .ge 59, 3) := by decide +kernel
theorem dX1_brokenThrough_10 : decode cX1_brokenThrough 10 = .ok (.iconst 0, 1) := by decide +kernel
theorem dX1_brokenThrough_11 : decode cX1_brokenThrough 11 = .ok (.istore_n 3, 1) := by decide +kernel
theorem dX1_brokenThrough_12 : decode cX1_brokenThrough 12 = .ok (.iload_n 3, 1) := by decide +kernel
theorem dX1_brokenThrough_13 : decode cX1_brokenThrough 13 = .ok (.aload_n 0, 1) := by decide +kernel
theorem dX1_brokenThrough_14 : decode cX1_brokenThrough 14 = .ok (.getfield 64, 3) := by decide +kernel
theorem dX1_brokenThrough_17 : decode cX1_brokenThrough 17 = .ok (.if_icmp .ge 43, 3) := by decide +kernel
theorem dX1_brokenThrough_20 : decode cX1_brokenThrough 20 = .ok (.aload_n 0, 1) := by decide +kernel
theorem dX1_brokenThrough_21 : decode cX1_brokenThrough 21 = .ok (.getfield 43, 3) := by decide +kernel
theorem dX1_brokenThrough_24 : decode cX1_brokenThrough 24 = .ok (.iload_n 2, 1) := by decide +kernel
theorem dX1_brokenThrough_25 : decode cX1_brokenThrough 25 = .ok (.iaload, 1) := by decide +kernel
theorem dX1_brokenThrough_26 : decode cX1_brokenThrough 26 = .ok (.iload_n 3, 1) := by decide +kernel
theorem dX1_brokenThrough_27 : decode cX1_brokenThrough 27 = .ok (.invokestatic 112, 3) := by decide +kernel
theorem dX1_brokenThrough_30 : decode cX1_brokenThrough 30 = .ok (.ifCond .eq 24, 3) := by decide +kernel
theorem dX1_brokenThrough_33 : decode cX1_brokenThrough 33 = .ok (.aload_n 0, 1) := by decide +kernel
theorem dX1_brokenThrough_34 : decode cX1_brokenThrough 34 = .ok (.iload_n 3, 1) := by decide +kernel
theorem dX1_brokenThrough_35 : decode cX1_brokenThrough 35 = .ok (.iload_n 2, 1) := by decide +kernel
theorem dX1_brokenThrough_36 : decode cX1_brokenThrough 36 = .ok (.aload_n 1, 1) := by decide +kernel
theorem dX1_brokenThrough_37 : decode cX1_brokenThrough 37 = .ok (.invokevirtual 115, 3) := by decide +kernel
theorem dX1_brokenThrough_40 : decode cX1_brokenThrough 40 = .ok (.ifCond .eq 14, 3) := by decide +kernel
theorem dX1_brokenThrough_43 : decode cX1_brokenThrough 43 = .ok (.sipush 20000, 3) := by decide +kernel
theorem dX1_brokenThrough_46 : decode cX1_brokenThrough 46 = .ok (.bipush 100, 2) := by decide +kernel
theorem dX1_brokenThrough_48 : decode cX1_brokenThrough 48 = .ok (.iload_n 2, 1) := by decide +kernel
theorem dX1_brokenThrough_49 : decode cX1_brokenThrough 49 = .ok (.imul, 1) := by decide +kernel
theorem dX1_brokenThrough_50 : decode cX1_brokenThrough 50 = .ok (.iadd, 1) := by decide +kernel
theorem dX1_brokenThrough_51 : decode cX1_brokenThrough 51 = .ok (.iload_n 3, 1) := by decide +kernel
theorem dX1_brokenThrough_52 : decode cX1_brokenThrough 52 = .ok (.iadd, 1) := by decide +kernel
theorem dX1_brokenThrough_53 : decode cX1_brokenThrough 53 = .ok (.ireturn, 1) := by decide +kernel
theorem dX1_brokenThrough_54 : decode cX1_brokenThrough 54 = .ok (.iinc 3 1, 3) := by decide +kernel
theorem dX1_brokenThrough_57 : decode cX1_brokenThrough 57 = .ok (.goto (-45), 3) := by decide +kernel
theorem dX1_brokenThrough_60 : decode cX1_brokenThrough 60 = .ok (.iinc 2 1, 3) := by decide +kernel
theorem dX1_brokenThrough_63 : decode cX1_brokenThrough 63 = .ok (.goto (-61), 3) := by decide +kernel
theorem dX1_brokenThrough_66 : decode cX1_brokenThrough 66 = .ok (.iconst 0, 1) := by decide +kernel
theorem dX1_brokenThrough_67 : decode cX1_brokenThrough 67 = .ok (.ireturn, 1) := by decide +kernel
theorem dX1_brokenAcross_0 : decode cX1_brokenAcross 0 = .ok (.iconst 0, 1) := by decide +kernel
theorem dX1_brokenAcross_1 : decode cX1_brokenAcross 1 = .ok (.istore_n 2, 1) := by decide +kernel
theorem dX1_brokenAcross_2 : decode cX1_brokenAcross 2 = .ok (.iload_n 2, 1) := by decide +kernel
theorem dX1_brokenAcross_3 : decode cX1_brokenAcross 3 = .ok (.aload_n 0, 1) := by decide +kernel
theorem dX1_brokenAcross_4 : decode cX1_brokenAcross 4 = .ok (.getfield 9, 3) := by decide +kernel
theorem dX1_brokenAcross_7 : decode cX1_brokenAcross 7 = .ok (.if_icmp .ge 78, 3) := by decide +kernel
theorem dX1_brokenAcross_10 : decode cX1_brokenAcross 10 = .ok (.iload_n 2, 1) := by decide +kernel
theorem dX1_brokenAcross_11 : decode cX1_brokenAcross 11 = .ok (.iconst 1, 1) := by decide +kernel
theorem dX1_brokenAcross_12 : decode cX1_brokenAcross 12 = .ok (.iadd, 1) := by decide +kernel
theorem dX1_brokenAcross_13 : decode cX1_brokenAcross 13 = .ok (.istore_n 3, 1) := by decide +kernel
theorem dX1_brokenAcross_14 : decode cX1_brokenAcross 14 = .ok (.iload_n 3, 1) := by decide +kernel
theorem dX1_brokenAcross_15 : decode cX1_brokenAcross 15 = .ok (.aload_n 0, 1) := by decide +kernel
theorem dX1_brokenAcross_16 : decode cX1_brokenAcross 16 = .ok (.getfield 9, 3) := by decide +kernel
theorem dX1_brokenAcross_19 : decode cX1_brokenAcross 19 = .ok (.if_icmp .ge 60, 3) := by decide +kernel
theorem dX1_brokenAcross_22 : decode cX1_brokenAcross 22 = .ok (.aload_n 0, 1) := by decide +kernel
theorem dX1_brokenAcross_23 : decode cX1_brokenAcross 23 = .ok (.getfield 46, 3) := by decide +kernel
theorem dX1_brokenAcross_26 : decode cX1_brokenAcross 26 = .ok (.iload_n 2, 1) := by decide +kernel
theorem dX1_brokenAcross_27 : decode cX1_brokenAcross 27 = .ok (.iaload, 1) := by decide +kernel
theorem dX1_brokenAcross_28 : decode cX1_brokenAcross 28 = .ok (.iload_n 3, 1) := by decide +kernel
theorem dX1_brokenAcross_29 : decode cX1_brokenAcross 29 = .ok (.invokestatic 112, 3) := by decide +kernel
theorem dX1_brokenAcross_32 : decode cX1_brokenAcross 32 = .ok (.ifCond .eq 41, 3) := by decide +kernel
theorem dX1_brokenAcross_35 : decode cX1_brokenAcross 35 = .ok (.aload_n 0, 1) := by decide +kernel
theorem dX1_brokenAcross_36 : decode cX1_brokenAcross 36 = .ok (.aload_n 0, 1) := by decide +kernel
theorem dX1_brokenAcross_37 : decode cX1_brokenAcross 37 = .ok (.getfield 28, 3) := by decide +kernel
theorem dX1_brokenAcross_40 : decode cX1_brokenAcross 40 = .ok (.iload_n 3, 1) := by decide +kernel
theorem dX1_brokenAcross_41 : decode cX1_brokenAcross 41 = .ok (.iaload, 1) := by decide +kernel
theorem dX1_brokenAcross_42 : decode cX1_brokenAcross 42 = .ok (.iload_n 2, 1) := by decide +kernel
theorem dX1_brokenAcross_43 : decode cX1_brokenAcross 43 = .ok (.aload_n 1, 1) := by decide +kernel
theorem dX1_brokenAcross_44 : decode cX1_brokenAcross 44 = .ok (.invokevirtual 115, 3) := by decide +kernel
theorem dX1_brokenAcross_47 : decode cX1_brokenAcross 47 = .ok (.aload_n 0, 1) := by decide +kernel
theorem dX1_brokenAcross_48 : decode cX1_brokenAcross 48 = .ok (.aload_n 0, 1) := by decide +kernel
theorem dX1_brokenAcross_49 : decode cX1_brokenAcross 49 = .ok (.getfield 31, 3) := by decide +kernel
theorem dX1_brokenAcross_52 : decode cX1_brokenAcross 52 = .ok (.iload_n 3, 1) := by decide +kernel
theorem dX1_brokenAcross_53 : decode cX1_brokenAcross 53 = .ok (.iaload, 1) := by decide +kernel
theorem dX1_brokenAcross_54 : decode cX1_brokenAcross 54 = .ok (.iload_n 2, 1) := by decide +kernel
theorem dX1_brokenAcross_55 : decode cX1_brokenAcross 55 = .ok (.aload_n 1, 1) := by decide +kernel
theorem dX1_brokenAcross_56 : decode cX1_brokenAcross 56 = .ok (.invokevirtual 115, 3) := by decide +kernel
theorem dX1_brokenAcross_59 : decode cX1_brokenAcross 59 = .ok (.if_icmp .eq 14, 3) := by decide +kernel
theorem dX1_brokenAcross_62 : decode cX1_brokenAcross 62 = .ok (.sipush 30000, 3) := by decide +kernel
theorem dX1_brokenAcross_65 : decode cX1_brokenAcross 65 = .ok (.bipush 100, 2) := by decide +kernel
theorem dX1_brokenAcross_67 : decode cX1_brokenAcross 67 = .ok (.iload_n 2, 1) := by decide +kernel
theorem dX1_brokenAcross_68 : decode cX1_brokenAcross 68 = .ok (.imul, 1) := by decide +kernel
theorem dX1_brokenAcross_69 : decode cX1_brokenAcross 69 = .ok (.iadd, 1) := by decide +kernel
theorem dX1_brokenAcross_70 : decode cX1_brokenAcross 70 = .ok (.iload_n 3, 1) := by decide +kernel
theorem dX1_brokenAcross_71 : decode cX1_brokenAcross 71 = .ok (.iadd, 1) := by decide +kernel
theorem dX1_brokenAcross_72 : decode cX1_brokenAcross 72 = .ok (.ireturn, 1) := by decide +kernel
theorem dX1_brokenAcross_73 : decode cX1_brokenAcross 73 = .ok (.iinc 3 1, 3) := by decide +kernel
theorem dX1_brokenAcross_76 : decode cX1_brokenAcross 76 = .ok (.goto (-62), 3) := by decide +kernel
theorem dX1_brokenAcross_79 : decode cX1_brokenAcross 79 = .ok (.iinc 2 1, 3) := by decide +kernel
theorem dX1_brokenAcross_82 : decode cX1_brokenAcross 82 = .ok (.goto (-80), 3) := by decide +kernel
theorem dX1_brokenAcross_85 : decode cX1_brokenAcross 85 = .ok (.iconst 0, 1) := by decide +kernel
theorem dX1_brokenAcross_86 : decode cX1_brokenAcross 86 = .ok (.ireturn, 1) := by decide +kernel
theorem dX1_liesWithin_0 : decode cX1_liesWithin 0 = .ok (.aload_n 3, 1) := by decide +kernel
theorem dX1_liesWithin_1 : decode cX1_liesWithin 1 = .ok (.iload_n 1, 1) := by decide +kernel
theorem dX1_liesWithin_2 : decode cX1_liesWithin 2 = .ok (.iaload, 1) := by decide +kernel
theorem dX1_liesWithin_3 : decode cX1_liesWithin 3 = .ok (.aload_n 3, 1) := by decide +kernel
theorem dX1_liesWithin_4 : decode cX1_liesWithin 4 = .ok (.aload_n 0, 1) := by decide +kernel
theorem dX1_liesWithin_5 : decode cX1_liesWithin 5 = .ok (.getfield 28, 3) := by decide +kernel
theorem dX1_liesWithin_8 : decode cX1_liesWithin 8 = .ok (.iload_n 2, 1) := by decide +kernel
theorem dX1_liesWithin_9 : decode cX1_liesWithin 9 = .ok (.iaload, 1) := by decide +kernel
theorem dX1_liesWithin_10 : decode cX1_liesWithin 10 = .ok (.iaload, 1) := by decide +kernel
theorem dX1_liesWithin_11 : decode cX1_liesWithin 11 = .ok (.aload_n 3, 1) := by decide +kernel
theorem dX1_liesWithin_12 : decode cX1_liesWithin 12 = .ok (.aload_n 0, 1) := by decide +kernel
theorem dX1_liesWithin_13 : decode cX1_liesWithin 13 = .ok (.getfield 31, 3) := by decide +kernel
theorem dX1_liesWithin_16 : decode cX1_liesWithin 16 = .ok (.iload_n 2, 1) := by decide +kernel
theorem dX1_liesWithin_17 : decode cX1_liesWithin 17 = .ok (.iaload, 1) := by decide +kernel
theorem dX1_liesWithin_18 : decode cX1_liesWithin 18 = .ok (.iaload, 1) := by decide +kernel
theorem dX1_liesWithin_19 : decode cX1_liesWithin 19 = .ok (.invokestatic 97, 3) := by decide +kernel
theorem dX1_liesWithin_22 : decode cX1_liesWithin 22 = .ok (.ireturn, 1) := by decide +kernel
theorem dX1_isBetween_0 : decode cX1_isBetween 0 = .ok (.iload_n 0, 1) := by decide +kernel
theorem dX1_isBetween_1 : decode cX1_isBetween 1 = .ok (.iload_n 1, 1) := by decide +kernel
theorem dX1_isBetween_2 : decode cX1_isBetween 2 = .ok (.iload_n 2, 1) := by decide +kernel
theorem dX1_isBetween_3 : decode cX1_isBetween 3 = .ok (.invokestatic 119, 3) := by decide +kernel
theorem dX1_isBetween_6 : decode cX1_isBetween 6 = .ok (.if_icmp .le 16, 3) := by decide +kernel
theorem dX1_isBetween_9 : decode cX1_isBetween 9 = .ok (.iload_n 0, 1) := by decide +kernel
theorem dX1_isBetween_10 : decode cX1_isBetween 10 = .ok (.iload_n 1, 1) := by decide +kernel
theorem dX1_isBetween_11 : decode cX1_isBetween 11 = .ok (.iload_n 2, 1) := by decide +kernel
theorem dX1_isBetween_12 : decode cX1_isBetween 12 = .ok (.invokestatic 125, 3) := by decide +kernel
theorem dX1_isBetween_15 : decode cX1_isBetween 15 = .ok (.if_icmp .ge 7, 3) := by decide +kernel
theorem dX1_isBetween_18 : decode cX1_isBetween 18 = .ok (.iconst 1, 1) := by decide +kernel
theorem dX1_isBetween_19 : decode cX1_isBetween 19 = .ok (.goto 4, 3) := by decide +kernel
theorem dX1_isBetween_22 : decode cX1_isBetween 22 = .ok (.iconst 0, 1) := by decide +kernel
theorem dX1_isBetween_23 : decode cX1_isBetween 23 = .ok (.ireturn, 1) := by decide +kernel
theorem dX1_allLines_0 : decode cX1_allLines 0 = .ok (.iconst 1, 1) := by decide +kernel
theorem dX1_allLines_1 : decode cX1_allLines 1 = .ok (.aload_n 0, 1) := by decide +kernel
theorem dX1_allLines_2 : decode cX1_allLines 2 = .ok (.getfield 61, 3) := by decide +kernel
theorem dX1_allLines_5 : decode cX1_allLines 5 = .ok (.iconst 1, 1) := by decide +kernel
theorem dX1_allLines_6 : decode cX1_allLines 6 = .ok (.isub, 1) := by decide +kernel
theorem dX1_allLines_7 : decode cX1_allLines 7 = .ok (.aload_n 0, 1) := by decide +kernel
theorem dX1_allLines_8 : decode cX1_allLines 8 = .ok (.getfield 58, 3) := by decide +kernel
theorem dX1_allLines_11 : decode cX1_allLines 11 = .ok (.iadd, 1) := by decide +kernel
theorem dX1_allLines_12 : decode cX1_allLines 12 = .ok (.iconst 1, 1) := by decide +kernel
theorem dX1_allLines_13 : decode cX1_allLines 13 = .ok (.isub, 1) := by decide +kernel
theorem dX1_allLines_14 : decode cX1_allLines 14 = .ok (.ishl, 1) := by decide +kernel
theorem dX1_allLines_15 : decode cX1_allLines 15 = .ok (.iconst 1, 1) := by decide +kernel
theorem dX1_allLines_16 : decode cX1_allLines 16 = .ok (.isub, 1) := by decide +kernel
theorem dX1_allLines_17 : decode cX1_allLines 17 = .ok (.ireturn, 1) := by decide +kernel
theorem dX1_creasesOn_0 : decode cX1_creasesOn 0 = .ok (.iconst 0, 1) := by decide +kernel
theorem dX1_creasesOn_1 : decode cX1_creasesOn 1 = .ok (.istore_n 2, 1) := by decide +kernel
theorem dX1_creasesOn_2 : decode cX1_creasesOn 2 = .ok (.iconst 0, 1) := by decide +kernel
theorem dX1_creasesOn_3 : decode cX1_creasesOn 3 = .ok (.istore_n 3, 1) := by decide +kernel
theorem dX1_creasesOn_4 : decode cX1_creasesOn 4 = .ok (.iload_n 3, 1) := by decide +kernel
theorem dX1_creasesOn_5 : decode cX1_creasesOn 5 = .ok (.aload_n 0, 1) := by decide +kernel
theorem dX1_creasesOn_6 : decode cX1_creasesOn 6 = .ok (.getfield 9, 3) := by decide +kernel
theorem dX1_creasesOn_9 : decode cX1_creasesOn 9 = .ok (.if_icmp .ge 25, 3) := by decide +kernel
theorem dX1_creasesOn_12 : decode cX1_creasesOn 12 = .ok (.iload_n 1, 1) := by decide +kernel
theorem dX1_creasesOn_13 : decode cX1_creasesOn 13 = .ok (.aload_n 0, 1) := by decide +kernel
theorem dX1_creasesOn_14 : decode cX1_creasesOn 14 = .ok (.getfield 34, 3) := by decide +kernel
theorem dX1_creasesOn_17 : decode cX1_creasesOn 17 = .ok (.iload_n 3, 1) := by decide +kernel
theorem dX1_creasesOn_18 : decode cX1_creasesOn 18 = .ok (.iaload, 1) := by decide +kernel
theorem dX1_creasesOn_19 : decode cX1_creasesOn 19 = .ok (.invokestatic 112, 3) := by decide +kernel
theorem dX1_creasesOn_22 : decode cX1_creasesOn 22 = .ok (.ifCond .eq 6, 3) := by decide +kernel
theorem dX1_creasesOn_25 : decode cX1_creasesOn 25 = .ok (.iinc 2 1, 3) := by decide +kernel
theorem dX1_creasesOn_28 : decode cX1_creasesOn 28 = .ok (.iinc 3 1, 3) := by decide +kernel
theorem dX1_creasesOn_31 : decode cX1_creasesOn 31 = .ok (.goto (-27), 3) := by decide +kernel
theorem dX1_creasesOn_34 : decode cX1_creasesOn 34 = .ok (.iload_n 2, 1) := by decide +kernel
theorem dX1_creasesOn_35 : decode cX1_creasesOn 35 = .ok (.ireturn, 1) := by decide +kernel
end
section
theorem dX4_init_0 : decode cX4_init 0 = .ok (.aload_n 0, 1) := by decide +kernel
theorem dX4_init_1 : decode cX4_init 1 = .ok (.invokespecial 1, 3) := by decide +kernel
theorem dX4_init_4 : decode cX4_init 4 = .ok (.aload_n 0, 1) := by decide +kernel
theorem dX4_init_5 : decode cX4_init 5 = .ok (.bipush 30, 2) := by decide +kernel
theorem dX4_init_7 : decode cX4_init 7 = .ok (.anewarray 9, 3) := by decide +kernel
theorem dX4_init_10 : decode cX4_init 10 = .ok (.putfield 11, 3) := by decide +kernel
theorem dX4_init_13 : decode cX4_init 13 = .ok (.aload_n 0, 1) := by decide +kernel
theorem dX4_init_14 : decode cX4_init 14 = .ok (.iconst 0, 1) := by decide +kernel
theorem dX4_init_15 : decode cX4_init 15 = .ok (.putfield 15, 3) := by decide +kernel
theorem dX4_init_18 : decode cX4_init 18 = .ok (.aload_n 0, 1) := by decide +kernel
theorem dX4_init_19 : decode cX4_init 19 = .ok (.new 19, 3) := by decide +kernel
theorem dX4_init_22 : decode cX4_init 22 = .ok (.dup, 1) := by decide +kernel
theorem dX4_init_23 : decode cX4_init 23 = .ok (.invokespecial 21, 3) := by decide +kernel
theorem dX4_init_26 : decode cX4_init 26 = .ok (.putfield 22, 3) := by decide +kernel
theorem dX4_init_29 : decode cX4_init 29 = .ok (.aload_n 0, 1) := by decide +kernel
theorem dX4_init_30 : decode cX4_init 30 = .ok (.new 19, 3) := by decide +kernel
theorem dX4_init_33 : decode cX4_init 33 = .ok (.dup, 1) := by decide +kernel
theorem dX4_init_34 : decode cX4_init 34 = .ok (.invokespecial 21, 3) := by decide +kernel
theorem dX4_init_37 : decode cX4_init 37 = .ok (.putfield 26, 3) := by decide +kernel
theorem dX4_init_40 : decode cX4_init 40 = .ok (.aload_n 0, 1) := by decide +kernel
theorem dX4_init_41 : decode cX4_init 41 = .ok (.aconst_null, 1) := by decide +kernel
theorem dX4_init_42 : decode cX4_init 42 = .ok (.putfield 29, 3) := by decide +kernel
theorem dX4_init_45 : decode cX4_init 45 = .ok (.aload_n 0, 1) := by decide +kernel
theorem dX4_init_46 : decode cX4_init 46 = .ok (.bipush 9, 2) := by decide +kernel
theorem dX4_init_48 : decode cX4_init 48 = .ok (.newarray .int, 2) := by decide +kernel
theorem dX4_init_50 : decode cX4_init 50 = .ok (.putfield 33, 3) := by decide +kernel
theorem dX4_init_53 : decode cX4_init 53 = .ok (.aload_n 0, 1) := by decide +kernel
theorem dX4_init_54 : decode cX4_init 54 = .ok (.bipush 9, 2) := by decide +kernel
theorem dX4_init_56 : decode cX4_init 56 = .ok (.newarray .int, 2) := by decide +kernel
theorem dX4_init_58 : decode cX4_init 58 = .ok (.putfield 37, 3) := by decide +kernel
theorem dX4_init_61 : decode cX4_init 61 = .ok (.aload_n 0, 1) := by decide +kernel
theorem dX4_init_62 : decode cX4_init 62 = .ok (.bipush 9, 2) := by decide +kernel
theorem dX4_init_64 : decode cX4_init 64 = .ok (.newarray .int, 2) := by decide +kernel
theorem dX4_init_66 : decode cX4_init 66 = .ok (.putfield 40, 3) := by decide +kernel
theorem dX4_init_69 : decode cX4_init 69 = .ok (.aload_n 0, 1) := by decide +kernel
theorem dX4_init_70 : decode cX4_init 70 = .ok (.bipush 64, 2) := by decide +kernel
theorem dX4_init_72 : decode cX4_init 72 = .ok (.newarray .long, 2) := by decide +kernel
theorem dX4_init_74 : decode cX4_init 74 = .ok (.putfield 43, 3) := by decide +kernel
theorem dX4_init_77 : decode cX4_init 77 = .ok (.aload_n 0, 1) := by decide +kernel
theorem dX4_init_78 : decode cX4_init 78 = .ok (.bipush 12, 2) := by decide +kernel
theorem dX4_init_80 : decode cX4_init 80 = .ok (.newarray .int, 2) := by decide +kernel
theorem dX4_init_82 : decode cX4_init 82 = .ok (.putfield 47, 3) := by decide +kernel
theorem dX4_init_85 : decode cX4_init 85 = .ok (.aload_n 0, 1) := by decide +kernel
theorem dX4_init_86 : decode cX4_init 86 = .ok (.iconst 0, 1) := by decide +kernel
theorem dX4_init_87 : decode cX4_init 87 = .ok (.putfield 50, 3) := by decide +kernel
theorem dX4_init_90 : decode cX4_init 90 = .ok (.aload_n 0, 1) := by decide +kernel
theorem dX4_init_91 : decode cX4_init 91 = .ok (.new 53, 3) := by decide +kernel
theorem dX4_init_94 : decode cX4_init 94 = .ok (.dup, 1) := by decide +kernel
theorem dX4_init_95 : decode cX4_init 95 = .ok (.invokespecial 55, 3) := by decide +kernel
theorem dX4_init_98 : decode cX4_init 98 = .ok (.putfield 56, 3) := by decide +kernel
theorem dX4_init_101 : decode cX4_init 101 = .ok (.aload_n 0, 1) := by decide +kernel
theorem dX4_init_102 : decode cX4_init 102 = .ok (.new 60, 3) := by decide +kernel
theorem dX4_init_105 : decode cX4_init 105 = .ok (.dup, 1) := by decide +kernel
theorem dX4_init_106 : decode cX4_init 106 = .ok (.invokespecial 62, 3) := by decide +kernel
theorem dX4_init_109 : decode cX4_init 109 = .ok (.putfield 63, 3) := by decide +kernel
theorem dX4_init_112 : decode cX4_init 112 = .ok (.aload_n 0, 1) := by decide +kernel
theorem dX4_init_113 : decode cX4_init 113 = .ok (.bipush 8, 2) := by decide +kernel
theorem dX4_init_115 : decode cX4_init 115 = .ok (.newarray .int, 2) := by decide +kernel
theorem dX4_init_117 : decode cX4_init 117 = .ok (.putfield 67, 3) := by decide +kernel
theorem dX4_init_120 : decode cX4_init 120 = .ok (.aload_n 0, 1) := by decide +kernel
theorem dX4_init_121 : decode cX4_init 121 = .ok (.iconst 0, 1) := by decide +kernel
theorem dX4_init_122 : decode cX4_init 122 = .ok (.putfield 70, 3) := by decide +kernel
theorem dX4_init_125 : decode cX4_init 125 = .ok (.return_, 1) := by decide +kernel
theorem dX4_strip_0 : decode cX4_strip 0 = .ok (.iload_n 1, 1) := by decide +kernel
theorem dX4_strip_1 : decode cX4_strip 1 = .ok (.iconst 1, 1) := by decide +kernel
theorem dX4_strip_2 : decode cX4_strip 2 = .ok (.if_icmp .lt 9, 3) := by decide +kernel
theorem dX4_strip_5 : decode cX4_strip 5 = .ok (.iload_n 1, 1) := by decide +kernel
theorem dX4_strip_6 : decode cX4_strip 6 = .ok (.bipush 9, 2) := by decide +kernel
theorem dX4_strip_8 : decode cX4_strip 8 = .ok (.if_icmp .le 8, 3) := by decide +kernel
theorem dX4_strip_11 : decode cX4_strip 11 = .ok (.bipush (-102), 2) := by decide +kernel
theorem dX4_strip_13 : decode cX4_strip 13 = .ok (.goto 10, 3) := by decide +kernel
theorem dX4_strip_16 : decode cX4_strip 16 = .ok (.aload_n 0, 1) := by decide +kernel
theorem dX4_strip_17 : decode cX4_strip 17 = .ok (.iconst 0, 1) := by decide +kernel
theorem dX4_strip_18 : decode cX4_strip 18 = .ok (.iconst 1, 1) := by decide +kernel
theorem dX4_strip_19 : decode cX4_strip 19 = .ok (.iload_n 1, 1) := by decide +kernel
theorem dX4_strip_20 : decode cX4_strip 20 = .ok (.invokevirtual 73, 3) := by decide +kernel
theorem dX4_strip_23 : decode cX4_strip 23 = .ok (.ireturn, 1) := by decide +kernel
theorem dX4_corner_0 : decode cX4_corner 0 = .ok (.iload_n 1, 1) := by decide +kernel
theorem dX4_corner_1 : decode cX4_corner 1 = .ok (.iconst 2, 1) := by decide +kernel
theorem dX4_corner_2 : decode cX4_corner 2 = .ok (.if_icmp .lt 9, 3) := by decide +kernel
theorem dX4_corner_5 : decode cX4_corner 5 = .ok (.iload_n 1, 1) := by decide +kernel
theorem dX4_corner_6 : decode cX4_corner 6 = .ok (.bipush 9, 2) := by decide +kernel
theorem dX4_corner_8 : decode cX4_corner 8 = .ok (.if_icmp .le 8, 3) := by decide +kernel
theorem dX4_corner_11 : decode cX4_corner 11 = .ok (.bipush (-102), 2) := by decide +kernel
theorem dX4_corner_13 : decode cX4_corner 13 = .ok (.goto 10, 3) := by decide +kernel
theorem dX4_corner_16 : decode cX4_corner 16 = .ok (.aload_n 0, 1) := by decide +kernel
theorem dX4_corner_17 : decode cX4_corner 17 = .ok (.iconst 1, 1) := by decide +kernel
theorem dX4_corner_18 : decode cX4_corner 18 = .ok (.iconst 1, 1) := by decide +kernel
theorem dX4_corner_19 : decode cX4_corner 19 = .ok (.iload_n 1, 1) := by decide +kernel
theorem dX4_corner_20 : decode cX4_corner 20 = .ok (.invokevirtual 73, 3) := by decide +kernel
theorem dX4_corner_23 : decode cX4_corner 23 = .ok (.ireturn, 1) := by decide +kernel
theorem dX4_map_0 : decode cX4_map 0 = .ok (.iload_n 1, 1) := by decide +kernel
theorem dX4_map_1 : decode cX4_map 1 = .ok (.iconst 1, 1) := by decide +kernel
theorem dX4_map_2 : decode cX4_map 2 = .ok (.if_icmp .lt 20, 3) := by decide +kernel
theorem dX4_map_5 : decode cX4_map 5 = .ok (.iload_n 2, 1) := by decide +kernel
theorem dX4_map_6 : decode cX4_map 6 = .ok (.iconst 1, 1) := by decide +kernel
theorem dX4_map_7 : decode cX4_map 7 = .ok (.if_icmp .lt 15, 3) := by decide +kernel
theorem dX4_map_10 : decode cX4_map 10 = .ok (.iload_n 1, 1) := by decide +kernel
theorem dX4_map_11 : decode cX4_map 11 = .ok (.bipush 9, 2) := by decide +kernel
theorem dX4_map_13 : decode cX4_map 13 = .ok (.if_icmp .gt 9, 3) := by decide +kernel
theorem dX4_map_16 : decode cX4_map 16 = .ok (.iload_n 2, 1) := by decide +kernel
theorem dX4_map_17 : decode cX4_map 17 = .ok (.bipush 9, 2) := by decide +kernel
theorem dX4_map_19 : decode cX4_map 19 = .ok (.if_icmp .le 6, 3) := by decide +kernel
theorem dX4_map_22 : decode cX4_map 22 = .ok (.bipush (-102), 2) := by decide +kernel
theorem dX4_map_24 : decode cX4_map 24 = .ok (.ireturn, 1) := by decide +kernel
theorem dX4_map_25 : decode cX4_map 25 = .ok (.iload_n 1, 1) := by decide +kernel
theorem dX4_map_26 : decode cX4_map 26 = .ok (.iload_n 2, 1) := by decide +kernel
theorem dX4_map_27 : decode cX4_map 27 = .ok (.imul, 1) := by decide +kernel
theorem dX4_map_28 : decode cX4_map 28 = .ok (.bipush 9, 2) := by decide +kernel
theorem dX4_map_30 : decode cX4_map 30 = .ok (.if_icmp .le 8, 3) := by decide +kernel
theorem dX4_map_33 : decode cX4_map 33 = .ok (.bipush (-102), 2) := by decide +kernel
theorem dX4_map_35 : decode cX4_map 35 = .ok (.goto 10, 3) := by decide +kernel
theorem dX4_map_38 : decode cX4_map 38 = .ok (.aload_n 0, 1) := by decide +kernel
theorem dX4_map_39 : decode cX4_map 39 = .ok (.iconst 2, 1) := by decide +kernel
theorem dX4_map_40 : decode cX4_map 40 = .ok (.iload_n 1, 1) := by decide +kernel
theorem dX4_map_41 : decode cX4_map 41 = .ok (.iload_n 2, 1) := by decide +kernel
theorem dX4_map_42 : decode cX4_map 42 = .ok (.invokevirtual 73, 3) := by decide +kernel
theorem dX4_map_45 : decode cX4_map 45 = .ok (.ireturn, 1) := by decide +kernel
theorem dX4_length_0 : decode cX4_length 0 = .ok (.aload_n 0, 1) := by decide +kernel
theorem dX4_length_1 : decode cX4_length 1 = .ok (.iload_n 1, 1) := by decide +kernel
theorem dX4_length_2 : decode cX4_length 2 = .ok (.invokevirtual 77, 3) := by decide +kernel
theorem dX4_length_5 : decode cX4_length 5 = .ok (.astore 4, 2) := by decide +kernel
theorem dX4_length_7 : decode cX4_length 7 = .ok (.aload 4, 2) := by decide +kernel
theorem dX4_length_9 : decode cX4_length 9 = .ok (.ifnull 12, 3) := by decide +kernel
theorem dX4_length_12 : decode cX4_length 12 = .ok (.aload 4, 2) := by decide +kernel
theorem dX4_length_14 : decode cX4_length 14 = .ok (.iload_n 2, 1) := by decide +kernel
theorem dX4_length_15 : decode cX4_length 15 = .ok (.invokevirtual 81, 3) := by decide +kernel
theorem dX4_length_18 : decode cX4_length 18 = .ok (.ifCond .ne 6, 3) := by decide +kernel
theorem dX4_length_21 : decode cX4_length 21 = .ok (.bipush (-101), 2) := by decide +kernel
theorem dX4_length_23 : decode cX4_length 23 = .ok (.ireturn, 1) := by decide +kernel
theorem dX4_length_24 : decode cX4_length 24 = .ok (.iload_n 3, 1) := by decide +kernel
theorem dX4_length_25 : decode cX4_length 25 = .ok (.iconst 1, 1) := by decide +kernel
theorem dX4_length_26 : decode cX4_length 26 = .ok (.if_icmp .lt 10, 3) := by decide +kernel
theorem dX4_length_29 : decode cX4_length 29 = .ok (.iload_n 3, 1) := by decide +kernel
theorem dX4_length_30 : decode cX4_length 30 = .ok (.sipush 1000, 3) := by decide +kernel
theorem dX4_length_33 : decode cX4_length 33 = .ok (.if_icmp .le 6, 3) := by decide +kernel
theorem dX4_length_36 : decode cX4_length 36 = .ok (.bipush (-102), 2) := by decide +kernel
theorem dX4_length_38 : decode cX4_length 38 = .ok (.ireturn, 1) := by decide +kernel
theorem dX4_length_39 : decode cX4_length 39 = .ok (.aload 4, 2) := by decide +kernel
theorem dX4_length_41 : decode cX4_length 41 = .ok (.getfield 85, 3) := by decide +kernel
theorem dX4_length_44 : decode cX4_length 44 = .ok (.iconst 2, 1) := by decide +kernel
theorem dX4_length_45 : decode cX4_length 45 = .ok (.if_icmp .ne 6, 3) := by decide +kernel
theorem dX4_length_48 : decode cX4_length 48 = .ok (.bipush (-103), 2) := by decide +kernel
theorem dX4_length_50 : decode cX4_length 50 = .ok (.ireturn, 1) := by decide +kernel
theorem dX4_length_51 : decode cX4_length 51 = .ok (.aload 4, 2) := by decide +kernel
theorem dX4_length_53 : decode cX4_length 53 = .ok (.getfield 88, 3) := by decide +kernel
theorem dX4_length_56 : decode cX4_length 56 = .ok (.iload_n 2, 1) := by decide +kernel
theorem dX4_length_57 : decode cX4_length 57 = .ok (.iaload, 1) := by decide +kernel
theorem dX4_length_58 : decode cX4_length 58 = .ok (.istore 5, 2) := by decide +kernel
theorem dX4_length_60 : decode cX4_length 60 = .ok (.aload 4, 2) := by decide +kernel
theorem dX4_length_62 : decode cX4_length 62 = .ok (.getfield 88, 3) := by decide +kernel
theorem dX4_length_65 : decode cX4_length 65 = .ok (.iload_n 2, 1) := by decide +kernel
theorem dX4_length_66 : decode cX4_length 66 = .ok (.iload_n 3, 1) := by decide +kernel
theorem dX4_length_67 : decode cX4_length 67 = .ok (.iastore, 1) := by decide +kernel
theorem dX4_length_68 : decode cX4_length 68 = .ok (.aload 4, 2) := by decide +kernel
theorem dX4_length_70 : decode cX4_length 70 = .ok (.invokevirtual 91, 3) := by decide +kernel
theorem dX4_length_73 : decode cX4_length 73 = .ok (.iload 5, 2) := by decide +kernel
theorem dX4_length_75 : decode cX4_length 75 = .ok (.ireturn, 1) := by decide +kernel
theorem dX4_mark_0 : decode cX4_mark 0 = .ok (.aload_n 0, 1) := by decide +kernel
theorem dX4_mark_1 : decode cX4_mark 1 = .ok (.iload_n 1, 1) := by decide +kernel
theorem dX4_mark_2 : decode cX4_mark 2 = .ok (.invokevirtual 77, 3) := by decide +kernel
theorem dX4_mark_5 : decode cX4_mark 5 = .ok (.astore 4, 2) := by decide +kernel
theorem dX4_mark_7 : decode cX4_mark 7 = .ok (.aload 4, 2) := by decide +kernel
theorem dX4_mark_9 : decode cX4_mark 9 = .ok (.ifnull 12, 3) := by decide +kernel
theorem dX4_mark_12 : decode cX4_mark 12 = .ok (.aload 4, 2) := by decide +kernel
theorem dX4_mark_14 : decode cX4_mark 14 = .ok (.iload_n 2, 1) := by decide +kernel
theorem dX4_mark_15 : decode cX4_mark 15 = .ok (.invokevirtual 94, 3) := by decide +kernel
theorem dX4_mark_18 : decode cX4_mark 18 = .ok (.ifCond .ne 6, 3) := by decide +kernel
theorem dX4_mark_21 : decode cX4_mark 21 = .ok (.bipush (-101), 2) := by decide +kernel
theorem dX4_mark_23 : decode cX4_mark 23 = .ok (.ireturn, 1) := by decide +kernel
theorem dX4_mark_24 : decode cX4_mark 24 = .ok (.iload_n 3, 1) := by decide +kernel
theorem dX4_mark_25 : decode cX4_mark 25 = .ok (.ifCond .lt 8, 3) := by decide +kernel
theorem dX4_mark_28 : decode cX4_mark 28 = .ok (.iload_n 3, 1) := by decide +kernel
theorem dX4_mark_29 : decode cX4_mark 29 = .ok (.iconst 2, 1) := by decide +kernel
theorem dX4_mark_30 : decode cX4_mark 30 = .ok (.if_icmp .le 6, 3) := by decide +kernel
theorem dX4_mark_33 : decode cX4_mark 33 = .ok (.bipush (-102), 2) := by decide +kernel
theorem dX4_mark_35 : decode cX4_mark 35 = .ok (.ireturn, 1) := by decide +kernel
theorem dX4_mark_36 : decode cX4_mark 36 = .ok (.aload 4, 2) := by decide +kernel
theorem dX4_mark_38 : decode cX4_mark 38 = .ok (.getfield 97, 3) := by decide +kernel
theorem dX4_mark_41 : decode cX4_mark 41 = .ok (.iload_n 2, 1) := by decide +kernel
theorem dX4_mark_42 : decode cX4_mark 42 = .ok (.iaload, 1) := by decide +kernel
theorem dX4_mark_43 : decode cX4_mark 43 = .ok (.istore 5, 2) := by decide +kernel
theorem dX4_mark_45 : decode cX4_mark 45 = .ok (.aload 4, 2) := by decide +kernel
theorem dX4_mark_47 : decode cX4_mark 47 = .ok (.getfield 97, 3) := by decide +kernel
theorem dX4_mark_50 : decode cX4_mark 50 = .ok (.iload_n 2, 1) := by decide +kernel
theorem dX4_mark_51 : decode cX4_mark 51 = .ok (.iload_n 3, 1) := by decide +kernel
theorem dX4_mark_52 : decode cX4_mark 52 = .ok (.iastore, 1) := by decide +kernel
theorem dX4_mark_53 : decode cX4_mark 53 = .ok (.iload 5, 2) := by decide +kernel
theorem dX4_mark_55 : decode cX4_mark 55 = .ok (.ireturn, 1) := by decide +kernel
theorem dX4_about_0 : decode cX4_about 0 = .ok (.aload_n 0, 1) := by decide +kernel
theorem dX4_about_1 : decode cX4_about 1 = .ok (.iload_n 1, 1) := by decide +kernel
theorem dX4_about_2 : decode cX4_about 2 = .ok (.invokevirtual 77, 3) := by decide +kernel
theorem dX4_about_5 : decode cX4_about 5 = .ok (.astore_n 3, 1) := by decide +kernel
theorem dX4_about_6 : decode cX4_about 6 = .ok (.aload_n 3, 1) := by decide +kernel
theorem dX4_about_7 : decode cX4_about 7 = .ok (.ifnonnull 6, 3) := by decide +kernel
theorem dX4_about_10 : decode cX4_about 10 = .ok (.bipush (-101), 2) := by decide +kernel
theorem dX4_about_12 : decode cX4_about 12 = .ok (.ireturn, 1) := by decide +kernel
theorem dX4_about_13 : decode cX4_about 13 = .ok (.iload_n 2, 1) := by decide +kernel
theorem dX4_about_14 : decode cX4_about 14 = .ok (.tableswitch 93 0 5 #[38, 43, 48, 53, 62, 71], 38) := by decide +kernel
theorem dX4_about_52 : decode cX4_about 52 = .ok (.aload_n 3, 1) := by decide +kernel
theorem dX4_about_53 : decode cX4_about 53 = .ok (.getfield 85, 3) := by decide +kernel
theorem dX4_about_56 : decode cX4_about 56 = .ok (.ireturn, 1) := by decide +kernel
theorem dX4_about_57 : decode cX4_about 57 = .ok (.aload_n 3, 1) := by decide +kernel
theorem dX4_about_58 : decode cX4_about 58 = .ok (.getfield 100, 3) := by decide +kernel
theorem dX4_about_61 : decode cX4_about 61 = .ok (.ireturn, 1) := by decide +kernel
theorem dX4_about_62 : decode cX4_about 62 = .ok (.aload_n 3, 1) := by decide +kernel
theorem dX4_about_63 : decode cX4_about 63 = .ok (.getfield 103, 3) := by decide +kernel
theorem dX4_about_66 : decode cX4_about 66 = .ok (.ireturn, 1) := by decide +kernel
theorem dX4_about_67 : decode cX4_about 67 = .ok (.aload_n 3, 1) := by decide +kernel
theorem dX4_about_68 : decode cX4_about 68 = .ok (.iconst 1, 1) := by decide +kernel
theorem dX4_about_69 : decode cX4_about 69 = .ok (.invokevirtual 106, 3) := by decide +kernel
theorem dX4_about_72 : decode cX4_about 72 = .ok (.invokestatic 110, 3) := by decide +kernel
theorem dX4_about_75 : decode cX4_about 75 = .ok (.ireturn, 1) := by decide +kernel
theorem dX4_about_76 : decode cX4_about 76 = .ok (.aload_n 3, 1) := by decide +kernel
theorem dX4_about_77 : decode cX4_about 77 = .ok (.iconst 2, 1) := by decide +kernel
theorem dX4_about_78 : decode cX4_about 78 = .ok (.invokevirtual 106, 3) := by decide +kernel
theorem dX4_about_81 : decode cX4_about 81 = .ok (.invokestatic 110, 3) := by decide +kernel
theorem dX4_about_84 : decode cX4_about 84 = .ok (.ireturn, 1) := by decide +kernel
theorem dX4_about_85 : decode cX4_about 85 = .ok (.aload_n 3, 1) := by decide +kernel
theorem dX4_about_86 : decode cX4_about 86 = .ok (.getfield 85, 3) := by decide +kernel
theorem dX4_about_89 : decode cX4_about 89 = .ok (.iconst 1, 1) := by decide +kernel
theorem dX4_about_90 : decode cX4_about 90 = .ok (.if_icmp .ne 15, 3) := by decide +kernel
theorem dX4_about_93 : decode cX4_about 93 = .ok (.aload_n 3, 1) := by decide +kernel
theorem dX4_about_94 : decode cX4_about 94 = .ok (.getfield 115, 3) := by decide +kernel
theorem dX4_about_97 : decode cX4_about 97 = .ok (.aload_n 3, 1) := by decide +kernel
theorem dX4_about_98 : decode cX4_about 98 = .ok (.getfield 100, 3) := by decide +kernel
theorem dX4_about_101 : decode cX4_about 101 = .ok (.iaload, 1) := by decide +kernel
theorem dX4_about_102 : decode cX4_about 102 = .ok (.goto 4, 3) := by decide +kernel
theorem dX4_about_105 : decode cX4_about 105 = .ok (.iconst 0, 1) := by decide +kernel
theorem dX4_about_106 : decode cX4_about 106 = .ok (.ireturn, 1) := by decide +kernel
theorem dX4_about_107 : decode cX4_about 107 = .ok (.bipush (-102), 2) := by decide +kernel
theorem dX4_about_109 : decode cX4_about 109 = .ok (.ireturn, 1) := by decide +kernel
theorem dX4_crease_0 : decode cX4_crease 0 = .ok (.aload_n 0, 1) := by decide +kernel
theorem dX4_crease_1 : decode cX4_crease 1 = .ok (.iload_n 1, 1) := by decide +kernel
theorem dX4_crease_2 : decode cX4_crease 2 = .ok (.invokevirtual 77, 3) := by decide +kernel
theorem dX4_crease_5 : decode cX4_crease 5 = .ok (.astore 4, 2) := by decide +kernel
theorem dX4_crease_7 : decode cX4_crease 7 = .ok (.aload 4, 2) := by decide +kernel
theorem dX4_crease_9 : decode cX4_crease 9 = .ok (.ifnull 12, 3) := by decide +kernel
theorem dX4_crease_12 : decode cX4_crease 12 = .ok (.aload 4, 2) := by decide +kernel
theorem dX4_crease_14 : decode cX4_crease 14 = .ok (.iload_n 2, 1) := by decide +kernel
theorem dX4_crease_15 : decode cX4_crease 15 = .ok (.invokevirtual 94, 3) := by decide +kernel
theorem dX4_crease_18 : decode cX4_crease 18 = .ok (.ifCond .ne 6, 3) := by decide +kernel
theorem dX4_crease_21 : decode cX4_crease 21 = .ok (.bipush (-101), 2) := by decide +kernel
theorem dX4_crease_23 : decode cX4_crease 23 = .ok (.ireturn, 1) := by decide +kernel
theorem dX4_crease_24 : decode cX4_crease 24 = .ok (.iload_n 3, 1) := by decide +kernel
theorem dX4_crease_25 : decode cX4_crease 25 = .ok (.tableswitch 63 0 3 #[31, 39, 47, 55], 31) := by decide +kernel
theorem dX4_crease_56 : decode cX4_crease 56 = .ok (.aload 4, 2) := by decide +kernel
theorem dX4_crease_58 : decode cX4_crease 58 = .ok (.getfield 118, 3) := by decide +kernel
theorem dX4_crease_61 : decode cX4_crease 61 = .ok (.iload_n 2, 1) := by decide +kernel
theorem dX4_crease_62 : decode cX4_crease 62 = .ok (.iaload, 1) := by decide +kernel
theorem dX4_crease_63 : decode cX4_crease 63 = .ok (.ireturn, 1) := by decide +kernel
theorem dX4_crease_64 : decode cX4_crease 64 = .ok (.aload 4, 2) := by decide +kernel
theorem dX4_crease_66 : decode cX4_crease 66 = .ok (.getfield 121, 3) := by decide +kernel
theorem dX4_crease_69 : decode cX4_crease 69 = .ok (.iload_n 2, 1) := by decide +kernel
theorem dX4_crease_70 : decode cX4_crease 70 = .ok (.iaload, 1) := by decide +kernel
theorem dX4_crease_71 : decode cX4_crease 71 = .ok (.ireturn, 1) := by decide +kernel
theorem dX4_crease_72 : decode cX4_crease 72 = .ok (.aload 4, 2) := by decide +kernel
theorem dX4_crease_74 : decode cX4_crease 74 = .ok (.getfield 97, 3) := by decide +kernel
theorem dX4_crease_77 : decode cX4_crease 77 = .ok (.iload_n 2, 1) := by decide +kernel
theorem dX4_crease_78 : decode cX4_crease 78 = .ok (.iaload, 1) := by decide +kernel
theorem dX4_crease_79 : decode cX4_crease 79 = .ok (.ireturn, 1) := by decide +kernel
theorem dX4_crease_80 : decode cX4_crease 80 = .ok (.aload 4, 2) := by decide +kernel
theorem dX4_crease_82 : decode cX4_crease 82 = .ok (.getfield 124, 3) := by decide +kernel
theorem dX4_crease_85 : decode cX4_crease 85 = .ok (.iload_n 2, 1) := by decide +kernel
theorem dX4_crease_86 : decode cX4_crease 86 = .ok (.iaload, 1) := by decide +kernel
theorem dX4_crease_87 : decode cX4_crease 87 = .ok (.ireturn, 1) := by decide +kernel
theorem dX4_crease_88 : decode cX4_crease 88 = .ok (.bipush (-102), 2) := by decide +kernel
theorem dX4_crease_90 : decode cX4_crease 90 = .ok (.ireturn, 1) := by decide +kernel
theorem dX4_judge_0 : decode cX4_judge 0 = .ok (.aload_n 0, 1) := by decide +kernel
theorem dX4_judge_1 : decode cX4_judge 1 = .ok (.iload_n 1, 1) := by decide +kernel
theorem dX4_judge_2 : decode cX4_judge 2 = .ok (.invokevirtual 77, 3) := by decide +kernel
theorem dX4_judge_5 : decode cX4_judge 5 = .ok (.astore_n 2, 1) := by decide +kernel
theorem dX4_judge_6 : decode cX4_judge 6 = .ok (.aload_n 2, 1) := by decide +kernel
theorem dX4_judge_7 : decode cX4_judge 7 = .ok (.ifnonnull 6, 3) := by decide +kernel
theorem dX4_judge_10 : decode cX4_judge 10 = .ok (.bipush (-101), 2) := by decide +kernel
theorem dX4_judge_12 : decode cX4_judge 12 = .ok (.ireturn, 1) := by decide +kernel
theorem dX4_judge_13 : decode cX4_judge 13 = .ok (.aload_n 0, 1) := by decide +kernel
theorem dX4_judge_14 : decode cX4_judge 14 = .ok (.getfield 22, 3) := by decide +kernel
theorem dX4_judge_17 : decode cX4_judge 17 = .ok (.aload_n 2, 1) := by decide +kernel
theorem dX4_judge_18 : decode cX4_judge 18 = .ok (.invokevirtual 127, 3) := by decide +kernel
theorem dX4_judge_21 : decode cX4_judge 21 = .ok (.aload_n 0, 1) := by decide +kernel
theorem dX4_judge_22 : decode cX4_judge 22 = .ok (.getfield 22, 3) := by decide +kernel
theorem dX4_judge_25 : decode cX4_judge 25 = .ok (.invokevirtual 131, 3) := by decide +kernel
theorem dX4_judge_28 : decode cX4_judge 28 = .ok (.ifCond .ne 5, 3) := by decide +kernel
theorem dX4_judge_31 : decode cX4_judge 31 = .ok (.iconst 0, 1) := by decide +kernel
theorem dX4_judge_32 : decode cX4_judge 32 = .ok (.ireturn, 1) := by decide +kernel
theorem dX4_judge_33 : decode cX4_judge 33 = .ok (.aload_n 0, 1) := by decide +kernel
theorem dX4_judge_34 : decode cX4_judge 34 = .ok (.aload_n 2, 1) := by decide +kernel
theorem dX4_judge_35 : decode cX4_judge 35 = .ok (.putfield 29, 3) := by decide +kernel
theorem dX4_judge_38 : decode cX4_judge 38 = .ok (.aload_n 0, 1) := by decide +kernel
theorem dX4_judge_39 : decode cX4_judge 39 = .ok (.getfield 22, 3) := by decide +kernel
theorem dX4_judge_42 : decode cX4_judge 42 = .ok (.getfield 135, 3) := by decide +kernel
theorem dX4_judge_45 : decode cX4_judge 45 = .ok (.iconst 0, 1) := by decide +kernel
theorem dX4_judge_46 : decode cX4_judge 46 = .ok (.aload_n 0, 1) := by decide +kernel
theorem dX4_judge_47 : decode cX4_judge 47 = .ok (.getfield 33, 3) := by decide +kernel
theorem dX4_judge_50 : decode cX4_judge 50 = .ok (.iconst 0, 1) := by decide +kernel
theorem dX4_judge_51 : decode cX4_judge 51 = .ok (.bipush 9, 2) := by decide +kernel
theorem dX4_judge_53 : decode cX4_judge 53 = .ok (.invokestatic 138, 3) := by decide +kernel
theorem dX4_judge_56 : decode cX4_judge 56 = .ok (.aload_n 0, 1) := by decide +kernel
theorem dX4_judge_57 : decode cX4_judge 57 = .ok (.getfield 22, 3) := by decide +kernel
theorem dX4_judge_60 : decode cX4_judge 60 = .ok (.getfield 144, 3) := by decide +kernel
theorem dX4_judge_63 : decode cX4_judge 63 = .ok (.iconst 0, 1) := by decide +kernel
theorem dX4_judge_64 : decode cX4_judge 64 = .ok (.aload_n 0, 1) := by decide +kernel
theorem dX4_judge_65 : decode cX4_judge 65 = .ok (.getfield 37, 3) := by decide +kernel
theorem dX4_judge_68 : decode cX4_judge 68 = .ok (.iconst 0, 1) := by decide +kernel
theorem dX4_judge_69 : decode cX4_judge 69 = .ok (.bipush 9, 2) := by decide +kernel
theorem dX4_judge_71 : decode cX4_judge 71 = .ok (.invokestatic 138, 3) := by decide +kernel
theorem dX4_judge_74 : decode cX4_judge 74 = .ok (.iconst 1, 1) := by decide +kernel
theorem dX4_judge_75 : decode cX4_judge 75 = .ok (.ireturn, 1) := by decide +kernel
theorem dX4_layer_0 : decode cX4_layer 0 = .ok (.aload_n 0, 1) := by decide +kernel
theorem dX4_layer_1 : decode cX4_layer 1 = .ok (.getfield 29, 3) := by decide +kernel
theorem dX4_layer_4 : decode cX4_layer 4 = .ok (.ifnonnull 6, 3) := by decide +kernel
theorem dX4_layer_7 : decode cX4_layer 7 = .ok (.bipush (-103), 2) := by decide +kernel
theorem dX4_layer_9 : decode cX4_layer 9 = .ok (.ireturn, 1) := by decide +kernel
theorem dX4_layer_10 : decode cX4_layer 10 = .ok (.iload_n 1, 1) := by decide +kernel
theorem dX4_layer_11 : decode cX4_layer 11 = .ok (.ifCond .lt 14, 3) := by decide +kernel
theorem dX4_layer_14 : decode cX4_layer 14 = .ok (.iload_n 1, 1) := by decide +kernel
theorem dX4_layer_15 : decode cX4_layer 15 = .ok (.aload_n 0, 1) := by decide +kernel
theorem dX4_layer_16 : decode cX4_layer 16 = .ok (.getfield 29, 3) := by decide +kernel
theorem dX4_layer_19 : decode cX4_layer 19 = .ok (.getfield 100, 3) := by decide +kernel
theorem dX4_layer_22 : decode cX4_layer 22 = .ok (.if_icmp .lt 8, 3) := by decide +kernel
theorem dX4_layer_25 : decode cX4_layer 25 = .ok (.bipush (-102), 2) := by decide +kernel
theorem dX4_layer_27 : decode cX4_layer 27 = .ok (.goto 9, 3) := by decide +kernel
theorem dX4_layer_30 : decode cX4_layer 30 = .ok (.aload_n 0, 1) := by decide +kernel
theorem dX4_layer_31 : decode cX4_layer 31 = .ok (.getfield 33, 3) := by decide +kernel
theorem dX4_layer_34 : decode cX4_layer 34 = .ok (.iload_n 1, 1) := by decide +kernel
theorem dX4_layer_35 : decode cX4_layer 35 = .ok (.iaload, 1) := by decide +kernel
theorem dX4_layer_36 : decode cX4_layer 36 = .ok (.ireturn, 1) := by decide +kernel
theorem dX4_turned_0 : decode cX4_turned 0 = .ok (.aload_n 0, 1) := by decide +kernel
theorem dX4_turned_1 : decode cX4_turned 1 = .ok (.getfield 29, 3) := by decide +kernel
theorem dX4_turned_4 : decode cX4_turned 4 = .ok (.ifnonnull 6, 3) := by decide +kernel
theorem dX4_turned_7 : decode cX4_turned 7 = .ok (.bipush (-103), 2) := by decide +kernel
theorem dX4_turned_9 : decode cX4_turned 9 = .ok (.ireturn, 1) := by decide +kernel
theorem dX4_turned_10 : decode cX4_turned 10 = .ok (.aload_n 0, 1) := by decide +kernel
theorem dX4_turned_11 : decode cX4_turned 11 = .ok (.getfield 29, 3) := by decide +kernel
theorem dX4_turned_14 : decode cX4_turned 14 = .ok (.iload_n 1, 1) := by decide +kernel
theorem dX4_turned_15 : decode cX4_turned 15 = .ok (.invokevirtual 94, 3) := by decide +kernel
theorem dX4_turned_18 : decode cX4_turned 18 = .ok (.ifCond .eq 18, 3) := by decide +kernel
theorem dX4_turned_21 : decode cX4_turned 21 = .ok (.aload_n 0, 1) := by decide +kernel
theorem dX4_turned_22 : decode cX4_turned 22 = .ok (.getfield 29, 3) := by decide +kernel
theorem dX4_turned_25 : decode cX4_turned 25 = .ok (.iload_n 1, 1) := by decide +kernel
theorem dX4_turned_26 : decode cX4_turned 26 = .ok (.aload_n 0, 1) := by decide +kernel
theorem dX4_turned_27 : decode cX4_turned 27 = .ok (.getfield 37, 3) := by decide +kernel
theorem dX4_turned_30 : decode cX4_turned 30 = .ok (.invokevirtual 147, 3) := by decide +kernel
theorem dX4_turned_33 : decode cX4_turned 33 = .ok (.goto 5, 3) := by decide +kernel
theorem dX4_turned_36 : decode cX4_turned 36 = .ok (.bipush (-101), 2) := by decide +kernel
theorem dX4_turned_38 : decode cX4_turned 38 = .ok (.ireturn, 1) := by decide +kernel
theorem dX4_orders_0 : decode cX4_orders 0 = .ok (.aload_n 0, 1) := by decide +kernel
theorem dX4_orders_1 : decode cX4_orders 1 = .ok (.iload_n 1, 1) := by decide +kernel
theorem dX4_orders_2 : decode cX4_orders 2 = .ok (.invokevirtual 77, 3) := by decide +kernel
theorem dX4_orders_5 : decode cX4_orders 5 = .ok (.astore_n 2, 1) := by decide +kernel
theorem dX4_orders_6 : decode cX4_orders 6 = .ok (.aload_n 2, 1) := by decide +kernel
theorem dX4_orders_7 : decode cX4_orders 7 = .ok (.ifnonnull 6, 3) := by decide +kernel
theorem dX4_orders_10 : decode cX4_orders 10 = .ok (.bipush (-101), 2) := by decide +kernel
theorem dX4_orders_12 : decode cX4_orders 12 = .ok (.ireturn, 1) := by decide +kernel
theorem dX4_orders_13 : decode cX4_orders 13 = .ok (.aload_n 0, 1) := by decide +kernel
theorem dX4_orders_14 : decode cX4_orders 14 = .ok (.getfield 22, 3) := by decide +kernel
theorem dX4_orders_17 : decode cX4_orders 17 = .ok (.aload_n 2, 1) := by decide +kernel
theorem dX4_orders_18 : decode cX4_orders 18 = .ok (.invokevirtual 127, 3) := by decide +kernel
theorem dX4_orders_21 : decode cX4_orders 21 = .ok (.iconst 0, 1) := by decide +kernel
theorem dX4_orders_22 : decode cX4_orders 22 = .ok (.istore_n 3, 1) := by decide +kernel
theorem dX4_orders_23 : decode cX4_orders 23 = .ok (.iload_n 3, 1) := by decide +kernel
theorem dX4_orders_24 : decode cX4_orders 24 = .ok (.ldc 151, 2) := by decide +kernel
theorem dX4_orders_26 : decode cX4_orders 26 = .ok (.if_icmp .ge 19, 3) := by decide +kernel
theorem dX4_orders_29 : decode cX4_orders 29 = .ok (.aload_n 0, 1) := by decide +kernel
theorem dX4_orders_30 : decode cX4_orders 30 = .ok (.getfield 22, 3) := by decide +kernel
theorem dX4_orders_33 : decode cX4_orders 33 = .ok (.invokevirtual 131, 3) := by decide +kernel
theorem dX4_orders_36 : decode cX4_orders 36 = .ok (.ifCond .eq 9, 3) := by decide +kernel
theorem dX4_orders_39 : decode cX4_orders 39 = .ok (.iinc 3 1, 3) := by decide +kernel
theorem dX4_orders_42 : decode cX4_orders 42 = .ok (.goto (-19), 3) := by decide +kernel
theorem dX4_orders_45 : decode cX4_orders 45 = .ok (.iload_n 3, 1) := by decide +kernel
theorem dX4_orders_46 : decode cX4_orders 46 = .ok (.ireturn, 1) := by decide +kernel
theorem dX4_order_0 : decode cX4_order 0 = .ok (.aload_n 0, 1) := by decide +kernel
theorem dX4_order_1 : decode cX4_order 1 = .ok (.iload_n 1, 1) := by decide +kernel
theorem dX4_order_2 : decode cX4_order 2 = .ok (.invokevirtual 77, 3) := by decide +kernel
theorem dX4_order_5 : decode cX4_order 5 = .ok (.astore_n 3, 1) := by decide +kernel
theorem dX4_order_6 : decode cX4_order 6 = .ok (.aload_n 3, 1) := by decide +kernel
theorem dX4_order_7 : decode cX4_order 7 = .ok (.ifnonnull 7, 3) := by decide +kernel
theorem dX4_order_10 : decode cX4_order 10 = .ok (.ldc2_w 152, 3) := by decide +kernel
theorem dX4_order_13 : decode cX4_order 13 = .ok (.lreturn, 1) := by decide +kernel
theorem dX4_order_14 : decode cX4_order 14 = .ok (.iload_n 2, 1) := by decide +kernel
theorem dX4_order_15 : decode cX4_order 15 = .ok (.ifCond .lt 9, 3) := by decide +kernel
theorem dX4_order_18 : decode cX4_order 18 = .ok (.iload_n 2, 1) := by decide +kernel
theorem dX4_order_19 : decode cX4_order 19 = .ok (.ldc 151, 2) := by decide +kernel
theorem dX4_order_21 : decode cX4_order 21 = .ok (.if_icmp .lt 7, 3) := by decide +kernel
theorem dX4_order_24 : decode cX4_order 24 = .ok (.ldc2_w 154, 3) := by decide +kernel
theorem dX4_order_27 : decode cX4_order 27 = .ok (.lreturn, 1) := by decide +kernel
theorem dX4_order_28 : decode cX4_order 28 = .ok (.aload_n 0, 1) := by decide +kernel
theorem dX4_order_29 : decode cX4_order 29 = .ok (.getfield 22, 3) := by decide +kernel
theorem dX4_order_32 : decode cX4_order 32 = .ok (.aload_n 3, 1) := by decide +kernel
theorem dX4_order_33 : decode cX4_order 33 = .ok (.invokevirtual 127, 3) := by decide +kernel
theorem dX4_order_36 : decode cX4_order 36 = .ok (.iconst 0, 1) := by decide +kernel
theorem dX4_order_37 : decode cX4_order 37 = .ok (.istore 4, 2) := by decide +kernel
theorem dX4_order_39 : decode cX4_order 39 = .ok (.iload 4, 2) := by decide +kernel
theorem dX4_order_41 : decode cX4_order 41 = .ok (.iload_n 2, 1) := by decide +kernel
theorem dX4_order_42 : decode cX4_order 42 = .ok (.if_icmp .gt 23, 3) := by decide +kernel
theorem dX4_order_45 : decode cX4_order 45 = .ok (.aload_n 0, 1) := by decide +kernel
theorem dX4_order_46 : decode cX4_order 46 = .ok (.getfield 22, 3) := by decide +kernel
theorem dX4_order_49 : decode cX4_order 49 = .ok (.invokevirtual 131, 3) := by decide +kernel
theorem dX4_order_52 : decode cX4_order 52 = .ok (.ifCond .ne 7, 3) := by decide +kernel
theorem dX4_order_55 : decode cX4_order 55 = .ok (.ldc2_w 154, 3) := by decide +kernel
theorem dX4_order_58 : decode cX4_order 58 = .ok (.lreturn, 1) := by decide +kernel
theorem dX4_order_59 : decode cX4_order 59 = .ok (.iinc 4 1, 3) := by decide +kernel
theorem dX4_order_62 : decode cX4_order 62 = .ok (.goto (-23), 3) := by decide +kernel
theorem dX4_order_65 : decode cX4_order 65 = .ok (.aload_n 0, 1) := by decide +kernel
theorem dX4_order_66 : decode cX4_order 66 = .ok (.getfield 22, 3) := by decide +kernel
theorem dX4_order_69 : decode cX4_order 69 = .ok (.invokevirtual 156, 3) := by decide +kernel
theorem dX4_order_72 : decode cX4_order 72 = .ok (.lreturn, 1) := by decide +kernel
theorem dX4_check_0 : decode cX4_check 0 = .ok (.aload_n 0, 1) := by decide +kernel
theorem dX4_check_1 : decode cX4_check 1 = .ok (.iload_n 1, 1) := by decide +kernel
theorem dX4_check_2 : decode cX4_check 2 = .ok (.invokevirtual 77, 3) := by decide +kernel
theorem dX4_check_5 : decode cX4_check 5 = .ok (.astore 4, 2) := by decide +kernel
theorem dX4_check_7 : decode cX4_check 7 = .ok (.aload 4, 2) := by decide +kernel
theorem dX4_check_9 : decode cX4_check 9 = .ok (.ifnonnull 6, 3) := by decide +kernel
theorem dX4_check_12 : decode cX4_check 12 = .ok (.bipush (-101), 2) := by decide +kernel
theorem dX4_check_14 : decode cX4_check 14 = .ok (.ireturn, 1) := by decide +kernel
theorem dX4_check_15 : decode cX4_check 15 = .ok (.aload_n 0, 1) := by decide +kernel
theorem dX4_check_16 : decode cX4_check 16 = .ok (.aload 4, 2) := by decide +kernel
theorem dX4_check_18 : decode cX4_check 18 = .ok (.getfield 100, 3) := by decide +kernel
theorem dX4_check_21 : decode cX4_check 21 = .ok (.lload_n 2, 1) := by decide +kernel
theorem dX4_check_22 : decode cX4_check 22 = .ok (.invokevirtual 160, 3) := by decide +kernel
theorem dX4_check_25 : decode cX4_check 25 = .ok (.ifCond .ne 6, 3) := by decide +kernel
theorem dX4_check_28 : decode cX4_check 28 = .ok (.bipush (-102), 2) := by decide +kernel
theorem dX4_check_30 : decode cX4_check 30 = .ok (.ireturn, 1) := by decide +kernel
theorem dX4_check_31 : decode cX4_check 31 = .ok (.aload 4, 2) := by decide +kernel
theorem dX4_check_33 : decode cX4_check 33 = .ok (.invokevirtual 164, 3) := by decide +kernel
theorem dX4_check_36 : decode cX4_check 36 = .ok (.ifCond .eq 6, 3) := by decide +kernel
theorem dX4_check_39 : decode cX4_check 39 = .ok (.ldc 167, 2) := by decide +kernel
theorem dX4_check_41 : decode cX4_check 41 = .ok (.ireturn, 1) := by decide +kernel
theorem dX4_check_42 : decode cX4_check 42 = .ok (.aload 4, 2) := by decide +kernel
theorem dX4_check_44 : decode cX4_check 44 = .ok (.aload_n 0, 1) := by decide +kernel
theorem dX4_check_45 : decode cX4_check 45 = .ok (.getfield 40, 3) := by decide +kernel
theorem dX4_check_48 : decode cX4_check 48 = .ok (.invokevirtual 168, 3) := by decide +kernel
theorem dX4_check_51 : decode cX4_check 51 = .ok (.istore 5, 2) := by decide +kernel
theorem dX4_check_53 : decode cX4_check 53 = .ok (.iload 5, 2) := by decide +kernel
theorem dX4_check_55 : decode cX4_check 55 = .ok (.ifCond .ne 14, 3) := by decide +kernel
theorem dX4_check_58 : decode cX4_check 58 = .ok (.aload 4, 2) := by decide +kernel
theorem dX4_check_60 : decode cX4_check 60 = .ok (.aload_n 0, 1) := by decide +kernel
theorem dX4_check_61 : decode cX4_check 61 = .ok (.getfield 40, 3) := by decide +kernel
theorem dX4_check_64 : decode cX4_check 64 = .ok (.invokevirtual 172, 3) := by decide +kernel
theorem dX4_check_67 : decode cX4_check 67 = .ok (.istore 5, 2) := by decide +kernel
theorem dX4_check_69 : decode cX4_check 69 = .ok (.iload 5, 2) := by decide +kernel
theorem dX4_check_71 : decode cX4_check 71 = .ok (.ifCond .ne 15, 3) := by decide +kernel
theorem dX4_check_74 : decode cX4_check 74 = .ok (.aload 4, 2) := by decide +kernel
theorem dX4_check_76 : decode cX4_check 76 = .ok (.aload_n 0, 1) := by decide +kernel
theorem dX4_check_77 : decode cX4_check 77 = .ok (.getfield 40, 3) := by decide +kernel
theorem dX4_check_80 : decode cX4_check 80 = .ok (.invokevirtual 175, 3) := by decide +kernel
theorem dX4_check_83 : decode cX4_check 83 = .ok (.goto 5, 3) := by decide +kernel
theorem dX4_check_86 : decode cX4_check 86 = .ok (.iload 5, 2) := by decide +kernel
theorem dX4_check_88 : decode cX4_check 88 = .ok (.ireturn, 1) := by decide +kernel
theorem dX4_forced_0 : decode cX4_forced 0 = .ok (.aload_n 0, 1) := by decide +kernel
theorem dX4_forced_1 : decode cX4_forced 1 = .ok (.iload_n 1, 1) := by decide +kernel
theorem dX4_forced_2 : decode cX4_forced 2 = .ok (.invokevirtual 77, 3) := by decide +kernel
theorem dX4_forced_5 : decode cX4_forced 5 = .ok (.astore_n 3, 1) := by decide +kernel
theorem dX4_forced_6 : decode cX4_forced 6 = .ok (.aload_n 3, 1) := by decide +kernel
theorem dX4_forced_7 : decode cX4_forced 7 = .ok (.ifnull 11, 3) := by decide +kernel
theorem dX4_forced_10 : decode cX4_forced 10 = .ok (.aload_n 3, 1) := by decide +kernel
theorem dX4_forced_11 : decode cX4_forced 11 = .ok (.iload_n 2, 1) := by decide +kernel
theorem dX4_forced_12 : decode cX4_forced 12 = .ok (.invokevirtual 94, 3) := by decide +kernel
theorem dX4_forced_15 : decode cX4_forced 15 = .ok (.ifCond .ne 6, 3) := by decide +kernel
theorem dX4_forced_18 : decode cX4_forced 18 = .ok (.bipush (-101), 2) := by decide +kernel
theorem dX4_forced_20 : decode cX4_forced 20 = .ok (.ireturn, 1) := by decide +kernel
theorem dX4_forced_21 : decode cX4_forced 21 = .ok (.aload_n 0, 1) := by decide +kernel
theorem dX4_forced_22 : decode cX4_forced 22 = .ok (.aload_n 3, 1) := by decide +kernel
theorem dX4_forced_23 : decode cX4_forced 23 = .ok (.iload_n 2, 1) := by decide +kernel
theorem dX4_forced_24 : decode cX4_forced 24 = .ok (.iconst 1, 1) := by decide +kernel
theorem dX4_forced_25 : decode cX4_forced 25 = .ok (.invokevirtual 178, 3) := by decide +kernel
theorem dX4_forced_28 : decode cX4_forced 28 = .ok (.ifCond .eq 7, 3) := by decide +kernel
theorem dX4_forced_31 : decode cX4_forced 31 = .ok (.iconst 1, 1) := by decide +kernel
theorem dX4_forced_32 : decode cX4_forced 32 = .ok (.goto 4, 3) := by decide +kernel
theorem dX4_forced_35 : decode cX4_forced 35 = .ok (.iconst 0, 1) := by decide +kernel
theorem dX4_forced_36 : decode cX4_forced 36 = .ok (.aload_n 0, 1) := by decide +kernel
theorem dX4_forced_37 : decode cX4_forced 37 = .ok (.aload_n 3, 1) := by decide +kernel
theorem dX4_forced_38 : decode cX4_forced 38 = .ok (.iload_n 2, 1) := by decide +kernel
theorem dX4_forced_39 : decode cX4_forced 39 = .ok (.iconst 2, 1) := by decide +kernel
theorem dX4_forced_40 : decode cX4_forced 40 = .ok (.invokevirtual 178, 3) := by decide +kernel
theorem dX4_forced_43 : decode cX4_forced 43 = .ok (.ifCond .eq 7, 3) := by decide +kernel
theorem dX4_forced_46 : decode cX4_forced 46 = .ok (.iconst 2, 1) := by decide +kernel
theorem dX4_forced_47 : decode cX4_forced 47 = .ok (.goto 4, 3) := by decide +kernel
theorem dX4_forced_50 : decode cX4_forced 50 = .ok (.iconst 0, 1) := by decide +kernel
theorem dX4_forced_51 : decode cX4_forced 51 = .ok (.iadd, 1) := by decide +kernel
theorem dX4_forced_52 : decode cX4_forced 52 = .ok (.ireturn, 1) := by decide +kernel
theorem dX4_above_0 : decode cX4_above 0 = .ok (.aload_n 0, 1) := by decide +kernel
theorem dX4_above_1 : decode cX4_above 1 = .ok (.iload_n 1, 1) := by decide +kernel
theorem dX4_above_2 : decode cX4_above 2 = .ok (.invokevirtual 77, 3) := by decide +kernel
theorem dX4_above_5 : decode cX4_above 5 = .ok (.astore 4, 2) := by decide +kernel
theorem dX4_above_7 : decode cX4_above 7 = .ok (.aload 4, 2) := by decide +kernel
theorem dX4_above_9 : decode cX4_above 9 = .ok (.ifnull 21, 3) := by decide +kernel
theorem dX4_above_12 : decode cX4_above 12 = .ok (.aload 4, 2) := by decide +kernel
theorem dX4_above_14 : decode cX4_above 14 = .ok (.iload_n 2, 1) := by decide +kernel
theorem dX4_above_15 : decode cX4_above 15 = .ok (.invokevirtual 81, 3) := by decide +kernel
theorem dX4_above_18 : decode cX4_above 18 = .ok (.ifCond .eq 12, 3) := by decide +kernel
theorem dX4_above_21 : decode cX4_above 21 = .ok (.aload 4, 2) := by decide +kernel
theorem dX4_above_23 : decode cX4_above 23 = .ok (.iload_n 3, 1) := by decide +kernel
theorem dX4_above_24 : decode cX4_above 24 = .ok (.invokevirtual 81, 3) := by decide +kernel
theorem dX4_above_27 : decode cX4_above 27 = .ok (.ifCond .ne 6, 3) := by decide +kernel
theorem dX4_above_30 : decode cX4_above 30 = .ok (.bipush (-101), 2) := by decide +kernel
theorem dX4_above_32 : decode cX4_above 32 = .ok (.ireturn, 1) := by decide +kernel
theorem dX4_above_33 : decode cX4_above 33 = .ok (.iload_n 2, 1) := by decide +kernel
theorem dX4_above_34 : decode cX4_above 34 = .ok (.iload_n 3, 1) := by decide +kernel
theorem dX4_above_35 : decode cX4_above 35 = .ok (.if_icmp .ne 5, 3) := by decide +kernel
theorem dX4_above_38 : decode cX4_above 38 = .ok (.iconst 2, 1) := by decide +kernel
theorem dX4_above_39 : decode cX4_above 39 = .ok (.ireturn, 1) := by decide +kernel
theorem dX4_above_40 : decode cX4_above 40 = .ok (.aload_n 0, 1) := by decide +kernel
theorem dX4_above_41 : decode cX4_above 41 = .ok (.aload 4, 2) := by decide +kernel
theorem dX4_above_43 : decode cX4_above 43 = .ok (.iload_n 3, 1) := by decide +kernel
theorem dX4_above_44 : decode cX4_above 44 = .ok (.iload_n 2, 1) := by decide +kernel
theorem dX4_above_45 : decode cX4_above 45 = .ok (.invokevirtual 182, 3) := by decide +kernel
theorem dX4_above_48 : decode cX4_above 48 = .ok (.istore 5, 2) := by decide +kernel
theorem dX4_above_50 : decode cX4_above 50 = .ok (.aload_n 0, 1) := by decide +kernel
theorem dX4_above_51 : decode cX4_above 51 = .ok (.aload 4, 2) := by decide +kernel
theorem dX4_above_53 : decode cX4_above 53 = .ok (.iload_n 2, 1) := by decide +kernel
theorem dX4_above_54 : decode cX4_above 54 = .ok (.iload_n 3, 1) := by decide +kernel
theorem dX4_above_55 : decode cX4_above 55 = .ok (.invokevirtual 182, 3) := by decide +kernel
theorem dX4_above_58 : decode cX4_above 58 = .ok (.istore 6, 2) := by decide +kernel
theorem dX4_above_60 : decode cX4_above 60 = .ok (.iload 5, 2) := by decide +kernel
theorem dX4_above_62 : decode cX4_above 62 = .ok (.iload 6, 2) := by decide +kernel
theorem dX4_above_64 : decode cX4_above 64 = .ok (.if_icmp .ne 14, 3) := by decide +kernel
theorem dX4_above_67 : decode cX4_above 67 = .ok (.iload 5, 2) := by decide +kernel
theorem dX4_above_69 : decode cX4_above 69 = .ok (.ifCond .eq 7, 3) := by decide +kernel
theorem dX4_above_72 : decode cX4_above 72 = .ok (.iconst 0, 1) := by decide +kernel
theorem dX4_above_73 : decode cX4_above 73 = .ok (.goto 4, 3) := by decide +kernel
theorem dX4_above_76 : decode cX4_above 76 = .ok (.iconst 2, 1) := by decide +kernel
theorem dX4_above_77 : decode cX4_above 77 = .ok (.ireturn, 1) := by decide +kernel
theorem dX4_above_78 : decode cX4_above 78 = .ok (.iload 5, 2) := by decide +kernel
theorem dX4_above_80 : decode cX4_above 80 = .ok (.ifCond .eq 7, 3) := by decide +kernel
theorem dX4_above_83 : decode cX4_above 83 = .ok (.iconst 1, 1) := by decide +kernel
theorem dX4_above_84 : decode cX4_above 84 = .ok (.goto 4, 3) := by decide +kernel
theorem dX4_above_87 : decode cX4_above 87 = .ok (.iconst (-1), 1) := by decide +kernel
theorem dX4_above_88 : decode cX4_above 88 = .ok (.ireturn, 1) := by decide +kernel
theorem dX4_alike_0 : decode cX4_alike 0 = .ok (.aload_n 0, 1) := by decide +kernel
theorem dX4_alike_1 : decode cX4_alike 1 = .ok (.iload_n 1, 1) := by decide +kernel
theorem dX4_alike_2 : decode cX4_alike 2 = .ok (.invokevirtual 77, 3) := by decide +kernel
theorem dX4_alike_5 : decode cX4_alike 5 = .ok (.astore_n 3, 1) := by decide +kernel
theorem dX4_alike_6 : decode cX4_alike 6 = .ok (.aload_n 0, 1) := by decide +kernel
theorem dX4_alike_7 : decode cX4_alike 7 = .ok (.iload_n 2, 1) := by decide +kernel
theorem dX4_alike_8 : decode cX4_alike 8 = .ok (.invokevirtual 77, 3) := by decide +kernel
theorem dX4_alike_11 : decode cX4_alike 11 = .ok (.astore 4, 2) := by decide +kernel
theorem dX4_alike_13 : decode cX4_alike 13 = .ok (.aload_n 3, 1) := by decide +kernel
theorem dX4_alike_14 : decode cX4_alike 14 = .ok (.ifnull 8, 3) := by decide +kernel
theorem dX4_alike_17 : decode cX4_alike 17 = .ok (.aload 4, 2) := by decide +kernel
theorem dX4_alike_19 : decode cX4_alike 19 = .ok (.ifnonnull 6, 3) := by decide +kernel
theorem dX4_alike_22 : decode cX4_alike 22 = .ok (.bipush (-101), 2) := by decide +kernel
theorem dX4_alike_24 : decode cX4_alike 24 = .ok (.ireturn, 1) := by decide +kernel
theorem dX4_alike_25 : decode cX4_alike 25 = .ok (.aload_n 3, 1) := by decide +kernel
theorem dX4_alike_26 : decode cX4_alike 26 = .ok (.getfield 100, 3) := by decide +kernel
theorem dX4_alike_29 : decode cX4_alike 29 = .ok (.aload 4, 2) := by decide +kernel
theorem dX4_alike_31 : decode cX4_alike 31 = .ok (.getfield 100, 3) := by decide +kernel
theorem dX4_alike_34 : decode cX4_alike 34 = .ok (.if_icmp .ne 17, 3) := by decide +kernel
theorem dX4_alike_37 : decode cX4_alike 37 = .ok (.aload_n 0, 1) := by decide +kernel
theorem dX4_alike_38 : decode cX4_alike 38 = .ok (.aload_n 3, 1) := by decide +kernel
theorem dX4_alike_39 : decode cX4_alike 39 = .ok (.aload 4, 2) := by decide +kernel
theorem dX4_alike_41 : decode cX4_alike 41 = .ok (.invokevirtual 185, 3) := by decide +kernel
theorem dX4_alike_44 : decode cX4_alike 44 = .ok (.ifCond .eq 7, 3) := by decide +kernel
theorem dX4_alike_47 : decode cX4_alike 47 = .ok (.iconst 1, 1) := by decide +kernel
theorem dX4_alike_48 : decode cX4_alike 48 = .ok (.goto 4, 3) := by decide +kernel
theorem dX4_alike_51 : decode cX4_alike 51 = .ok (.iconst 0, 1) := by decide +kernel
theorem dX4_alike_52 : decode cX4_alike 52 = .ok (.ireturn, 1) := by decide +kernel
theorem dX4_foldings_0 : decode cX4_foldings 0 = .ok (.aload_n 0, 1) := by decide +kernel
theorem dX4_foldings_1 : decode cX4_foldings 1 = .ok (.iload_n 1, 1) := by decide +kernel
theorem dX4_foldings_2 : decode cX4_foldings 2 = .ok (.invokevirtual 77, 3) := by decide +kernel
theorem dX4_foldings_5 : decode cX4_foldings 5 = .ok (.astore_n 2, 1) := by decide +kernel
theorem dX4_foldings_6 : decode cX4_foldings 6 = .ok (.aload_n 2, 1) := by decide +kernel
theorem dX4_foldings_7 : decode cX4_foldings 7 = .ok (.ifnonnull 6, 3) := by decide +kernel
theorem dX4_foldings_10 : decode cX4_foldings 10 = .ok (.bipush (-101), 2) := by decide +kernel
theorem dX4_foldings_12 : decode cX4_foldings 12 = .ok (.ireturn, 1) := by decide +kernel
theorem dX4_foldings_13 : decode cX4_foldings 13 = .ok (.aload_n 0, 1) := by decide +kernel
theorem dX4_foldings_14 : decode cX4_foldings 14 = .ok (.getfield 43, 3) := by decide +kernel
theorem dX4_foldings_17 : decode cX4_foldings 17 = .ok (.lconst 0, 1) := by decide +kernel
theorem dX4_foldings_18 : decode cX4_foldings 18 = .ok (.invokestatic 189, 3) := by decide +kernel
theorem dX4_foldings_21 : decode cX4_foldings 21 = .ok (.aload_n 0, 1) := by decide +kernel
theorem dX4_foldings_22 : decode cX4_foldings 22 = .ok (.getfield 22, 3) := by decide +kernel
theorem dX4_foldings_25 : decode cX4_foldings 25 = .ok (.aload_n 2, 1) := by decide +kernel
theorem dX4_foldings_26 : decode cX4_foldings 26 = .ok (.invokevirtual 127, 3) := by decide +kernel
theorem dX4_foldings_29 : decode cX4_foldings 29 = .ok (.iconst 0, 1) := by decide +kernel
theorem dX4_foldings_30 : decode cX4_foldings 30 = .ok (.istore_n 3, 1) := by decide +kernel
theorem dX4_foldings_31 : decode cX4_foldings 31 = .ok (.iconst 0, 1) := by decide +kernel
theorem dX4_foldings_32 : decode cX4_foldings 32 = .ok (.istore 4, 2) := by decide +kernel
theorem dX4_foldings_34 : decode cX4_foldings 34 = .ok (.iload 4, 2) := by decide +kernel
theorem dX4_foldings_36 : decode cX4_foldings 36 = .ok (.ldc 151, 2) := by decide +kernel
theorem dX4_foldings_38 : decode cX4_foldings 38 = .ok (.if_icmp .ge 40, 3) := by decide +kernel
theorem dX4_foldings_41 : decode cX4_foldings 41 = .ok (.aload_n 0, 1) := by decide +kernel
theorem dX4_foldings_42 : decode cX4_foldings 42 = .ok (.getfield 22, 3) := by decide +kernel
theorem dX4_foldings_45 : decode cX4_foldings 45 = .ok (.invokevirtual 131, 3) := by decide +kernel
theorem dX4_foldings_48 : decode cX4_foldings 48 = .ok (.ifCond .eq 30, 3) := by decide +kernel
theorem dX4_foldings_51 : decode cX4_foldings 51 = .ok (.aload_n 0, 1) := by decide +kernel
theorem dX4_foldings_52 : decode cX4_foldings 52 = .ok (.aload_n 2, 1) := by decide +kernel
theorem dX4_foldings_53 : decode cX4_foldings 53 = .ok (.aload_n 0, 1) := by decide +kernel
theorem dX4_foldings_54 : decode cX4_foldings 54 = .ok (.getfield 22, 3) := by decide +kernel
theorem dX4_foldings_57 : decode cX4_foldings 57 = .ok (.getfield 144, 3) := by decide +kernel
theorem dX4_foldings_60 : decode cX4_foldings 60 = .ok (.invokevirtual 195, 3) := by decide +kernel
theorem dX4_foldings_63 : decode cX4_foldings 63 = .ok (.invokevirtual 198, 3) := by decide +kernel
theorem dX4_foldings_66 : decode cX4_foldings 66 = .ok (.ifCond .eq 6, 3) := by decide +kernel
theorem dX4_foldings_69 : decode cX4_foldings 69 = .ok (.iinc 3 1, 3) := by decide +kernel
theorem dX4_foldings_72 : decode cX4_foldings 72 = .ok (.iinc 4 1, 3) := by decide +kernel
theorem dX4_foldings_75 : decode cX4_foldings 75 = .ok (.goto (-41), 3) := by decide +kernel
theorem dX4_foldings_78 : decode cX4_foldings 78 = .ok (.iload_n 3, 1) := by decide +kernel
theorem dX4_foldings_79 : decode cX4_foldings 79 = .ok (.ireturn, 1) := by decide +kernel
theorem dX4_clash_0 : decode cX4_clash 0 = .ok (.aload_n 0, 1) := by decide +kernel
theorem dX4_clash_1 : decode cX4_clash 1 = .ok (.iload_n 1, 1) := by decide +kernel
theorem dX4_clash_2 : decode cX4_clash 2 = .ok (.invokevirtual 77, 3) := by decide +kernel
theorem dX4_clash_5 : decode cX4_clash 5 = .ok (.astore_n 2, 1) := by decide +kernel
theorem dX4_clash_6 : decode cX4_clash 6 = .ok (.aload_n 2, 1) := by decide +kernel
theorem dX4_clash_7 : decode cX4_clash 7 = .ok (.ifnonnull 6, 3) := by decide +kernel
theorem dX4_clash_10 : decode cX4_clash 10 = .ok (.bipush (-101), 2) := by decide +kernel
theorem dX4_clash_12 : decode cX4_clash 12 = .ok (.ireturn, 1) := by decide +kernel
theorem dX4_clash_13 : decode cX4_clash 13 = .ok (.aload_n 0, 1) := by decide +kernel
theorem dX4_clash_14 : decode cX4_clash 14 = .ok (.iconst 0, 1) := by decide +kernel
theorem dX4_clash_15 : decode cX4_clash 15 = .ok (.putfield 50, 3) := by decide +kernel
theorem dX4_clash_18 : decode cX4_clash 18 = .ok (.aload_n 2, 1) := by decide +kernel
theorem dX4_clash_19 : decode cX4_clash 19 = .ok (.iconst 1, 1) := by decide +kernel
theorem dX4_clash_20 : decode cX4_clash 20 = .ok (.invokevirtual 106, 3) := by decide +kernel
theorem dX4_clash_23 : decode cX4_clash 23 = .ok (.aload_n 2, 1) := by decide +kernel
theorem dX4_clash_24 : decode cX4_clash 24 = .ok (.iconst 2, 1) := by decide +kernel
theorem dX4_clash_25 : decode cX4_clash 25 = .ok (.invokevirtual 106, 3) := by decide +kernel
theorem dX4_clash_28 : decode cX4_clash 28 = .ok (.ior, 1) := by decide +kernel
theorem dX4_clash_29 : decode cX4_clash 29 = .ok (.istore_n 3, 1) := by decide +kernel
theorem dX4_clash_30 : decode cX4_clash 30 = .ok (.aload_n 0, 1) := by decide +kernel
theorem dX4_clash_31 : decode cX4_clash 31 = .ok (.aload_n 2, 1) := by decide +kernel
theorem dX4_clash_32 : decode cX4_clash 32 = .ok (.iload_n 3, 1) := by decide +kernel
theorem dX4_clash_33 : decode cX4_clash 33 = .ok (.invokevirtual 201, 3) := by decide +kernel
theorem dX4_clash_36 : decode cX4_clash 36 = .ok (.ifCond .eq 5, 3) := by decide +kernel
theorem dX4_clash_39 : decode cX4_clash 39 = .ok (.iconst 0, 1) := by decide +kernel
theorem dX4_clash_40 : decode cX4_clash 40 = .ok (.ireturn, 1) := by decide +kernel
theorem dX4_clash_41 : decode cX4_clash 41 = .ok (.aload_n 2, 1) := by decide +kernel
theorem dX4_clash_42 : decode cX4_clash 42 = .ok (.getfield 103, 3) := by decide +kernel
theorem dX4_clash_45 : decode cX4_clash 45 = .ok (.iconst 1, 1) := by decide +kernel
theorem dX4_clash_46 : decode cX4_clash 46 = .ok (.isub, 1) := by decide +kernel
theorem dX4_clash_47 : decode cX4_clash 47 = .ok (.istore 4, 2) := by decide +kernel
theorem dX4_clash_49 : decode cX4_clash 49 = .ok (.iload 4, 2) := by decide +kernel
theorem dX4_clash_51 : decode cX4_clash 51 = .ok (.ifCond .lt 38, 3) := by decide +kernel
theorem dX4_clash_54 : decode cX4_clash 54 = .ok (.iload_n 3, 1) := by decide +kernel
theorem dX4_clash_55 : decode cX4_clash 55 = .ok (.iconst 1, 1) := by decide +kernel
theorem dX4_clash_56 : decode cX4_clash 56 = .ok (.iload 4, 2) := by decide +kernel
theorem dX4_clash_58 : decode cX4_clash 58 = .ok (.ishl, 1) := by decide +kernel
theorem dX4_clash_59 : decode cX4_clash 59 = .ok (.iconst (-1), 1) := by decide +kernel
theorem dX4_clash_60 : decode cX4_clash 60 = .ok (.ixor, 1) := by decide +kernel
theorem dX4_clash_61 : decode cX4_clash 61 = .ok (.iand, 1) := by decide +kernel
theorem dX4_clash_62 : decode cX4_clash 62 = .ok (.istore 5, 2) := by decide +kernel
theorem dX4_clash_64 : decode cX4_clash 64 = .ok (.iload 5, 2) := by decide +kernel
theorem dX4_clash_66 : decode cX4_clash 66 = .ok (.iload_n 3, 1) := by decide +kernel
theorem dX4_clash_67 : decode cX4_clash 67 = .ok (.if_icmp .eq 16, 3) := by decide +kernel
theorem dX4_clash_70 : decode cX4_clash 70 = .ok (.aload_n 0, 1) := by decide +kernel
theorem dX4_clash_71 : decode cX4_clash 71 = .ok (.aload_n 2, 1) := by decide +kernel
theorem dX4_clash_72 : decode cX4_clash 72 = .ok (.iload 5, 2) := by decide +kernel
theorem dX4_clash_74 : decode cX4_clash 74 = .ok (.invokevirtual 201, 3) := by decide +kernel
theorem dX4_clash_77 : decode cX4_clash 77 = .ok (.ifCond .ne 6, 3) := by decide +kernel
theorem dX4_clash_80 : decode cX4_clash 80 = .ok (.iload 5, 2) := by decide +kernel
theorem dX4_clash_82 : decode cX4_clash 82 = .ok (.istore_n 3, 1) := by decide +kernel
theorem dX4_clash_83 : decode cX4_clash 83 = .ok (.iinc 4 (-1), 3) := by decide +kernel
theorem dX4_clash_86 : decode cX4_clash 86 = .ok (.goto (-37), 3) := by decide +kernel
theorem dX4_clash_89 : decode cX4_clash 89 = .ok (.iconst 0, 1) := by decide +kernel
theorem dX4_clash_90 : decode cX4_clash 90 = .ok (.istore 4, 2) := by decide +kernel
theorem dX4_clash_92 : decode cX4_clash 92 = .ok (.iload 4, 2) := by decide +kernel
theorem dX4_clash_94 : decode cX4_clash 94 = .ok (.aload_n 2, 1) := by decide +kernel
theorem dX4_clash_95 : decode cX4_clash 95 = .ok (.getfield 103, 3) := by decide +kernel
theorem dX4_clash_98 : decode cX4_clash 98 = .ok (.if_icmp .ge 39, 3) := by decide +kernel
theorem dX4_clash_101 : decode cX4_clash 101 = .ok (.iload_n 3, 1) := by decide +kernel
theorem dX4_clash_102 : decode cX4_clash 102 = .ok (.iload 4, 2) := by decide +kernel
theorem dX4_clash_104 : decode cX4_clash 104 = .ok (.invokestatic 205, 3) := by decide +kernel
theorem dX4_clash_107 : decode cX4_clash 107 = .ok (.ifCond .eq 24, 3) := by decide +kernel
theorem dX4_clash_110 : decode cX4_clash 110 = .ok (.aload_n 0, 1) := by decide +kernel
theorem dX4_clash_111 : decode cX4_clash 111 = .ok (.getfield 47, 3) := by decide +kernel
theorem dX4_clash_114 : decode cX4_clash 114 = .ok (.aload_n 0, 1) := by decide +kernel
theorem dX4_clash_115 : decode cX4_clash 115 = .ok (.getfield 50, 3) := by decide +kernel
theorem dX4_clash_118 : decode cX4_clash 118 = .ok (.iload 4, 2) := by decide +kernel
theorem dX4_clash_120 : decode cX4_clash 120 = .ok (.iastore, 1) := by decide +kernel
theorem dX4_clash_121 : decode cX4_clash 121 = .ok (.aload_n 0, 1) := by decide +kernel
theorem dX4_clash_122 : decode cX4_clash 122 = .ok (.dup, 1) := by decide +kernel
theorem dX4_clash_123 : decode cX4_clash 123 = .ok (.getfield 50, 3) := by decide +kernel
theorem dX4_clash_126 : decode cX4_clash 126 = .ok (.iconst 1, 1) := by decide +kernel
theorem dX4_clash_127 : decode cX4_clash 127 = .ok (.iadd, 1) := by decide +kernel
theorem dX4_clash_128 : decode cX4_clash 128 = .ok (.putfield 50, 3) := by decide +kernel
theorem dX4_clash_131 : decode cX4_clash 131 = .ok (.iinc 4 1, 3) := by decide +kernel
theorem dX4_clash_134 : decode cX4_clash 134 = .ok (.goto (-42), 3) := by decide +kernel
theorem dX4_clash_137 : decode cX4_clash 137 = .ok (.aload_n 0, 1) := by decide +kernel
theorem dX4_clash_138 : decode cX4_clash 138 = .ok (.getfield 50, 3) := by decide +kernel
theorem dX4_clash_141 : decode cX4_clash 141 = .ok (.ireturn, 1) := by decide +kernel
theorem dX4_inClash_0 : decode cX4_inClash 0 = .ok (.iload_n 1, 1) := by decide +kernel
theorem dX4_inClash_1 : decode cX4_inClash 1 = .ok (.ifCond .lt 11, 3) := by decide +kernel
theorem dX4_inClash_4 : decode cX4_inClash 4 = .ok (.iload_n 1, 1) := by decide +kernel
theorem dX4_inClash_5 : decode cX4_inClash 5 = .ok (.aload_n 0, 1) := by decide +kernel
theorem dX4_inClash_6 : decode cX4_inClash 6 = .ok (.getfield 50, 3) := by decide +kernel
theorem dX4_inClash_9 : decode cX4_inClash 9 = .ok (.if_icmp .lt 7, 3) := by decide +kernel
theorem dX4_inClash_12 : decode cX4_inClash 12 = .ok (.iconst (-1), 1) := by decide +kernel
theorem dX4_inClash_13 : decode cX4_inClash 13 = .ok (.goto 9, 3) := by decide +kernel
theorem dX4_inClash_16 : decode cX4_inClash 16 = .ok (.aload_n 0, 1) := by decide +kernel
theorem dX4_inClash_17 : decode cX4_inClash 17 = .ok (.getfield 47, 3) := by decide +kernel
theorem dX4_inClash_20 : decode cX4_inClash 20 = .ok (.iload_n 1, 1) := by decide +kernel
theorem dX4_inClash_21 : decode cX4_inClash 21 = .ok (.iaload, 1) := by decide +kernel
theorem dX4_inClash_22 : decode cX4_inClash 22 = .ok (.ireturn, 1) := by decide +kernel
theorem dX4_simple_0 : decode cX4_simple 0 = .ok (.aload_n 0, 1) := by decide +kernel
theorem dX4_simple_1 : decode cX4_simple 1 = .ok (.iload_n 1, 1) := by decide +kernel
theorem dX4_simple_2 : decode cX4_simple 2 = .ok (.invokevirtual 77, 3) := by decide +kernel
theorem dX4_simple_5 : decode cX4_simple 5 = .ok (.astore_n 2, 1) := by decide +kernel
theorem dX4_simple_6 : decode cX4_simple 6 = .ok (.aload_n 2, 1) := by decide +kernel
theorem dX4_simple_7 : decode cX4_simple 7 = .ok (.ifnonnull 6, 3) := by decide +kernel
theorem dX4_simple_10 : decode cX4_simple 10 = .ok (.bipush (-101), 2) := by decide +kernel
theorem dX4_simple_12 : decode cX4_simple 12 = .ok (.ireturn, 1) := by decide +kernel
theorem dX4_simple_13 : decode cX4_simple 13 = .ok (.aload_n 2, 1) := by decide +kernel
theorem dX4_simple_14 : decode cX4_simple 14 = .ok (.getfield 85, 3) := by decide +kernel
theorem dX4_simple_17 : decode cX4_simple 17 = .ok (.iconst 1, 1) := by decide +kernel
theorem dX4_simple_18 : decode cX4_simple 18 = .ok (.if_icmp .ne 6, 3) := by decide +kernel
theorem dX4_simple_21 : decode cX4_simple 21 = .ok (.bipush (-103), 2) := by decide +kernel
theorem dX4_simple_23 : decode cX4_simple 23 = .ok (.ireturn, 1) := by decide +kernel
theorem dX4_simple_24 : decode cX4_simple 24 = .ok (.aload_n 0, 1) := by decide +kernel
theorem dX4_simple_25 : decode cX4_simple 25 = .ok (.getfield 63, 3) := by decide +kernel
theorem dX4_simple_28 : decode cX4_simple 28 = .ok (.aload_n 2, 1) := by decide +kernel
theorem dX4_simple_29 : decode cX4_simple 29 = .ok (.aload_n 0, 1) := by decide +kernel
theorem dX4_simple_30 : decode cX4_simple 30 = .ok (.getfield 56, 3) := by decide +kernel
theorem dX4_simple_33 : decode cX4_simple 33 = .ok (.invokevirtual 209, 3) := by decide +kernel
theorem dX4_simple_36 : decode cX4_simple 36 = .ok (.aload_n 0, 1) := by decide +kernel
theorem dX4_simple_37 : decode cX4_simple 37 = .ok (.getfield 63, 3) := by decide +kernel
theorem dX4_simple_40 : decode cX4_simple 40 = .ok (.getfield 213, 3) := by decide +kernel
theorem dX4_simple_43 : decode cX4_simple 43 = .ok (.iconst 0, 1) := by decide +kernel
theorem dX4_simple_44 : decode cX4_simple 44 = .ok (.iaload, 1) := by decide +kernel
theorem dX4_simple_45 : decode cX4_simple 45 = .ok (.bipush 8, 2) := by decide +kernel
theorem dX4_simple_47 : decode cX4_simple 47 = .ok (.if_icmp .le 5, 3) := by decide +kernel
theorem dX4_simple_50 : decode cX4_simple 50 = .ok (.iconst (-1), 1) := by decide +kernel
theorem dX4_simple_51 : decode cX4_simple 51 = .ok (.ireturn, 1) := by decide +kernel
theorem dX4_simple_52 : decode cX4_simple 52 = .ok (.aload_n 0, 1) := by decide +kernel
theorem dX4_simple_53 : decode cX4_simple 53 = .ok (.aload_n 0, 1) := by decide +kernel
theorem dX4_simple_54 : decode cX4_simple 54 = .ok (.getfield 63, 3) := by decide +kernel
theorem dX4_simple_57 : decode cX4_simple 57 = .ok (.aload_n 2, 1) := by decide +kernel
theorem dX4_simple_58 : decode cX4_simple 58 = .ok (.invokevirtual 216, 3) := by decide +kernel
theorem dX4_simple_61 : decode cX4_simple 61 = .ok (.aload_n 0, 1) := by decide +kernel
theorem dX4_simple_62 : decode cX4_simple 62 = .ok (.getfield 67, 3) := by decide +kernel
theorem dX4_simple_65 : decode cX4_simple 65 = .ok (.invokevirtual 220, 3) := by decide +kernel
theorem dX4_simple_68 : decode cX4_simple 68 = .ok (.putfield 70, 3) := by decide +kernel
theorem dX4_simple_71 : decode cX4_simple 71 = .ok (.aload_n 0, 1) := by decide +kernel
theorem dX4_simple_72 : decode cX4_simple 72 = .ok (.getfield 70, 3) := by decide +kernel
theorem dX4_simple_75 : decode cX4_simple 75 = .ok (.ireturn, 1) := by decide +kernel
theorem dX4_step_0 : decode cX4_step 0 = .ok (.iload_n 1, 1) := by decide +kernel
theorem dX4_step_1 : decode cX4_step 1 = .ok (.ifCond .lt 11, 3) := by decide +kernel
theorem dX4_step_4 : decode cX4_step 4 = .ok (.iload_n 1, 1) := by decide +kernel
theorem dX4_step_5 : decode cX4_step 5 = .ok (.aload_n 0, 1) := by decide +kernel
theorem dX4_step_6 : decode cX4_step 6 = .ok (.getfield 70, 3) := by decide +kernel
theorem dX4_step_9 : decode cX4_step 9 = .ok (.if_icmp .lt 8, 3) := by decide +kernel
theorem dX4_step_12 : decode cX4_step 12 = .ok (.bipush (-103), 2) := by decide +kernel
theorem dX4_step_14 : decode cX4_step 14 = .ok (.goto 9, 3) := by decide +kernel
theorem dX4_step_17 : decode cX4_step 17 = .ok (.aload_n 0, 1) := by decide +kernel
theorem dX4_step_18 : decode cX4_step 18 = .ok (.getfield 67, 3) := by decide +kernel
theorem dX4_step_21 : decode cX4_step 21 = .ok (.iload_n 1, 1) := by decide +kernel
theorem dX4_step_22 : decode cX4_step 22 = .ok (.iaload, 1) := by decide +kernel
theorem dX4_step_23 : decode cX4_step 23 = .ok (.ireturn, 1) := by decide +kernel
theorem dX4_fold_0 : decode cX4_fold 0 = .ok (.aload_n 0, 1) := by decide +kernel
theorem dX4_fold_1 : decode cX4_fold 1 = .ok (.iload_n 1, 1) := by decide +kernel
theorem dX4_fold_2 : decode cX4_fold 2 = .ok (.invokevirtual 77, 3) := by decide +kernel
theorem dX4_fold_5 : decode cX4_fold 5 = .ok (.astore_n 3, 1) := by decide +kernel
theorem dX4_fold_6 : decode cX4_fold 6 = .ok (.aload_n 3, 1) := by decide +kernel
theorem dX4_fold_7 : decode cX4_fold 7 = .ok (.ifnonnull 6, 3) := by decide +kernel
theorem dX4_fold_10 : decode cX4_fold 10 = .ok (.bipush (-101), 2) := by decide +kernel
theorem dX4_fold_12 : decode cX4_fold 12 = .ok (.ireturn, 1) := by decide +kernel
theorem dX4_fold_13 : decode cX4_fold 13 = .ok (.aload_n 3, 1) := by decide +kernel
theorem dX4_fold_14 : decode cX4_fold 14 = .ok (.getfield 85, 3) := by decide +kernel
theorem dX4_fold_17 : decode cX4_fold 17 = .ok (.iconst 1, 1) := by decide +kernel
theorem dX4_fold_18 : decode cX4_fold 18 = .ok (.if_icmp .ne 6, 3) := by decide +kernel
theorem dX4_fold_21 : decode cX4_fold 21 = .ok (.bipush (-103), 2) := by decide +kernel
theorem dX4_fold_23 : decode cX4_fold 23 = .ok (.ireturn, 1) := by decide +kernel
theorem dX4_fold_24 : decode cX4_fold 24 = .ok (.aload_n 0, 1) := by decide +kernel
theorem dX4_fold_25 : decode cX4_fold 25 = .ok (.getfield 56, 3) := by decide +kernel
theorem dX4_fold_28 : decode cX4_fold 28 = .ok (.aload_n 3, 1) := by decide +kernel
theorem dX4_fold_29 : decode cX4_fold 29 = .ok (.aload_n 3, 1) := by decide +kernel
theorem dX4_fold_30 : decode cX4_fold 30 = .ok (.getfield 223, 3) := by decide +kernel
theorem dX4_fold_33 : decode cX4_fold 33 = .ok (.invokevirtual 226, 3) := by decide +kernel
theorem dX4_fold_36 : decode cX4_fold 36 = .ok (.aload_n 0, 1) := by decide +kernel
theorem dX4_fold_37 : decode cX4_fold 37 = .ok (.getfield 56, 3) := by decide +kernel
theorem dX4_fold_40 : decode cX4_fold 40 = .ok (.aload_n 3, 1) := by decide +kernel
theorem dX4_fold_41 : decode cX4_fold 41 = .ok (.iload_n 2, 1) := by decide +kernel
theorem dX4_fold_42 : decode cX4_fold 42 = .ok (.invokevirtual 230, 3) := by decide +kernel
theorem dX4_fold_45 : decode cX4_fold 45 = .ok (.istore 4, 2) := by decide +kernel
theorem dX4_fold_47 : decode cX4_fold 47 = .ok (.aload_n 3, 1) := by decide +kernel
theorem dX4_fold_48 : decode cX4_fold 48 = .ok (.dup, 1) := by decide +kernel
theorem dX4_fold_49 : decode cX4_fold 49 = .ok (.getfield 223, 3) := by decide +kernel
theorem dX4_fold_52 : decode cX4_fold 52 = .ok (.iload 4, 2) := by decide +kernel
theorem dX4_fold_54 : decode cX4_fold 54 = .ok (.ior, 1) := by decide +kernel
theorem dX4_fold_55 : decode cX4_fold 55 = .ok (.putfield 223, 3) := by decide +kernel
theorem dX4_fold_58 : decode cX4_fold 58 = .ok (.aload_n 3, 1) := by decide +kernel
theorem dX4_fold_59 : decode cX4_fold 59 = .ok (.iload 4, 2) := by decide +kernel
theorem dX4_fold_61 : decode cX4_fold 61 = .ok (.invokevirtual 234, 3) := by decide +kernel
theorem dX4_fold_64 : decode cX4_fold 64 = .ok (.ireturn, 1) := by decide +kernel
theorem dX4_flatten_0 : decode cX4_flatten 0 = .ok (.aload_n 0, 1) := by decide +kernel
theorem dX4_flatten_1 : decode cX4_flatten 1 = .ok (.iload_n 1, 1) := by decide +kernel
theorem dX4_flatten_2 : decode cX4_flatten 2 = .ok (.invokevirtual 77, 3) := by decide +kernel
theorem dX4_flatten_5 : decode cX4_flatten 5 = .ok (.astore_n 2, 1) := by decide +kernel
theorem dX4_flatten_6 : decode cX4_flatten 6 = .ok (.aload_n 2, 1) := by decide +kernel
theorem dX4_flatten_7 : decode cX4_flatten 7 = .ok (.ifnonnull 6, 3) := by decide +kernel
theorem dX4_flatten_10 : decode cX4_flatten 10 = .ok (.bipush (-101), 2) := by decide +kernel
theorem dX4_flatten_12 : decode cX4_flatten 12 = .ok (.ireturn, 1) := by decide +kernel
theorem dX4_flatten_13 : decode cX4_flatten 13 = .ok (.aload_n 2, 1) := by decide +kernel
theorem dX4_flatten_14 : decode cX4_flatten 14 = .ok (.getfield 85, 3) := by decide +kernel
theorem dX4_flatten_17 : decode cX4_flatten 17 = .ok (.iconst 1, 1) := by decide +kernel
theorem dX4_flatten_18 : decode cX4_flatten 18 = .ok (.if_icmp .ne 6, 3) := by decide +kernel
theorem dX4_flatten_21 : decode cX4_flatten 21 = .ok (.bipush (-103), 2) := by decide +kernel
theorem dX4_flatten_23 : decode cX4_flatten 23 = .ok (.ireturn, 1) := by decide +kernel
theorem dX4_flatten_24 : decode cX4_flatten 24 = .ok (.aload_n 2, 1) := by decide +kernel
theorem dX4_flatten_25 : decode cX4_flatten 25 = .ok (.aload_n 2, 1) := by decide +kernel
theorem dX4_flatten_26 : decode cX4_flatten 26 = .ok (.getfield 223, 3) := by decide +kernel
theorem dX4_flatten_29 : decode cX4_flatten 29 = .ok (.invokevirtual 234, 3) := by decide +kernel
theorem dX4_flatten_32 : decode cX4_flatten 32 = .ok (.istore_n 3, 1) := by decide +kernel
theorem dX4_flatten_33 : decode cX4_flatten 33 = .ok (.aload_n 2, 1) := by decide +kernel
theorem dX4_flatten_34 : decode cX4_flatten 34 = .ok (.iconst 0, 1) := by decide +kernel
theorem dX4_flatten_35 : decode cX4_flatten 35 = .ok (.putfield 223, 3) := by decide +kernel
theorem dX4_flatten_38 : decode cX4_flatten 38 = .ok (.iload_n 3, 1) := by decide +kernel
theorem dX4_flatten_39 : decode cX4_flatten 39 = .ok (.ireturn, 1) := by decide +kernel
theorem dX4_lies_0 : decode cX4_lies 0 = .ok (.aload_n 0, 1) := by decide +kernel
theorem dX4_lies_1 : decode cX4_lies 1 = .ok (.iload_n 1, 1) := by decide +kernel
theorem dX4_lies_2 : decode cX4_lies 2 = .ok (.invokevirtual 77, 3) := by decide +kernel
theorem dX4_lies_5 : decode cX4_lies 5 = .ok (.astore 4, 2) := by decide +kernel
theorem dX4_lies_7 : decode cX4_lies 7 = .ok (.aload 4, 2) := by decide +kernel
theorem dX4_lies_9 : decode cX4_lies 9 = .ok (.ifnull 12, 3) := by decide +kernel
theorem dX4_lies_12 : decode cX4_lies 12 = .ok (.aload 4, 2) := by decide +kernel
theorem dX4_lies_14 : decode cX4_lies 14 = .ok (.iload_n 2, 1) := by decide +kernel
theorem dX4_lies_15 : decode cX4_lies 15 = .ok (.invokevirtual 81, 3) := by decide +kernel
theorem dX4_lies_18 : decode cX4_lies 18 = .ok (.ifCond .ne 6, 3) := by decide +kernel
theorem dX4_lies_21 : decode cX4_lies 21 = .ok (.bipush (-101), 2) := by decide +kernel
theorem dX4_lies_23 : decode cX4_lies 23 = .ok (.ireturn, 1) := by decide +kernel
theorem dX4_lies_24 : decode cX4_lies 24 = .ok (.iload_n 3, 1) := by decide +kernel
theorem dX4_lies_25 : decode cX4_lies 25 = .ok (.ifCond .lt 8, 3) := by decide +kernel
theorem dX4_lies_28 : decode cX4_lies 28 = .ok (.iload_n 3, 1) := by decide +kernel
theorem dX4_lies_29 : decode cX4_lies 29 = .ok (.iconst 3, 1) := by decide +kernel
theorem dX4_lies_30 : decode cX4_lies 30 = .ok (.if_icmp .le 6, 3) := by decide +kernel
theorem dX4_lies_33 : decode cX4_lies 33 = .ok (.bipush (-102), 2) := by decide +kernel
theorem dX4_lies_35 : decode cX4_lies 35 = .ok (.ireturn, 1) := by decide +kernel
theorem dX4_lies_36 : decode cX4_lies 36 = .ok (.aload 4, 2) := by decide +kernel
theorem dX4_lies_38 : decode cX4_lies 38 = .ok (.getfield 85, 3) := by decide +kernel
theorem dX4_lies_41 : decode cX4_lies 41 = .ok (.iconst 1, 1) := by decide +kernel
theorem dX4_lies_42 : decode cX4_lies 42 = .ok (.if_icmp .ne 6, 3) := by decide +kernel
theorem dX4_lies_45 : decode cX4_lies 45 = .ok (.bipush (-103), 2) := by decide +kernel
theorem dX4_lies_47 : decode cX4_lies 47 = .ok (.ireturn, 1) := by decide +kernel
theorem dX4_lies_48 : decode cX4_lies 48 = .ok (.aload_n 0, 1) := by decide +kernel
theorem dX4_lies_49 : decode cX4_lies 49 = .ok (.getfield 56, 3) := by decide +kernel
theorem dX4_lies_52 : decode cX4_lies 52 = .ok (.aload 4, 2) := by decide +kernel
theorem dX4_lies_54 : decode cX4_lies 54 = .ok (.aload 4, 2) := by decide +kernel
theorem dX4_lies_56 : decode cX4_lies 56 = .ok (.getfield 223, 3) := by decide +kernel
theorem dX4_lies_59 : decode cX4_lies 59 = .ok (.invokevirtual 226, 3) := by decide +kernel
theorem dX4_lies_62 : decode cX4_lies 62 = .ok (.iload_n 3, 1) := by decide +kernel
theorem dX4_lies_63 : decode cX4_lies 63 = .ok (.tableswitch 82 0 2 #[25, 43, 63], 25) := by decide +kernel
theorem dX4_lies_88 : decode cX4_lies 88 = .ok (.aload_n 0, 1) := by decide +kernel
theorem dX4_lies_89 : decode cX4_lies 89 = .ok (.getfield 56, 3) := by decide +kernel
theorem dX4_lies_92 : decode cX4_lies 92 = .ok (.getfield 237, 3) := by decide +kernel
theorem dX4_lies_95 : decode cX4_lies 95 = .ok (.iconst 0, 1) := by decide +kernel
theorem dX4_lies_96 : decode cX4_lies 96 = .ok (.aaload, 1) := by decide +kernel
theorem dX4_lies_97 : decode cX4_lies 97 = .ok (.aload 4, 2) := by decide +kernel
theorem dX4_lies_99 : decode cX4_lies 99 = .ok (.getfield 240, 3) := by decide +kernel
theorem dX4_lies_102 : decode cX4_lies 102 = .ok (.iload_n 2, 1) := by decide +kernel
theorem dX4_lies_103 : decode cX4_lies 103 = .ok (.iaload, 1) := by decide +kernel
theorem dX4_lies_104 : decode cX4_lies 104 = .ok (.iaload, 1) := by decide +kernel
theorem dX4_lies_105 : decode cX4_lies 105 = .ok (.ireturn, 1) := by decide +kernel
theorem dX4_lies_106 : decode cX4_lies 106 = .ok (.iconst 1, 1) := by decide +kernel
theorem dX4_lies_107 : decode cX4_lies 107 = .ok (.aload_n 0, 1) := by decide +kernel
theorem dX4_lies_108 : decode cX4_lies 108 = .ok (.getfield 56, 3) := by decide +kernel
theorem dX4_lies_111 : decode cX4_lies 111 = .ok (.getfield 243, 3) := by decide +kernel
theorem dX4_lies_114 : decode cX4_lies 114 = .ok (.iconst 0, 1) := by decide +kernel
theorem dX4_lies_115 : decode cX4_lies 115 = .ok (.aaload, 1) := by decide +kernel
theorem dX4_lies_116 : decode cX4_lies 116 = .ok (.aload 4, 2) := by decide +kernel
theorem dX4_lies_118 : decode cX4_lies 118 = .ok (.getfield 240, 3) := by decide +kernel
theorem dX4_lies_121 : decode cX4_lies 121 = .ok (.iload_n 2, 1) := by decide +kernel
theorem dX4_lies_122 : decode cX4_lies 122 = .ok (.iaload, 1) := by decide +kernel
theorem dX4_lies_123 : decode cX4_lies 123 = .ok (.iaload, 1) := by decide +kernel
theorem dX4_lies_124 : decode cX4_lies 124 = .ok (.isub, 1) := by decide +kernel
theorem dX4_lies_125 : decode cX4_lies 125 = .ok (.ireturn, 1) := by decide +kernel
theorem dX4_lies_126 : decode cX4_lies 126 = .ok (.aload_n 0, 1) := by decide +kernel
theorem dX4_lies_127 : decode cX4_lies 127 = .ok (.getfield 56, 3) := by decide +kernel
theorem dX4_lies_130 : decode cX4_lies 130 = .ok (.aload 4, 2) := by decide +kernel
theorem dX4_lies_132 : decode cX4_lies 132 = .ok (.iload_n 2, 1) := by decide +kernel
theorem dX4_lies_133 : decode cX4_lies 133 = .ok (.invokevirtual 246, 3) := by decide +kernel
theorem dX4_lies_136 : decode cX4_lies 136 = .ok (.ifCond .eq 7, 3) := by decide +kernel
theorem dX4_lies_139 : decode cX4_lies 139 = .ok (.iconst 1, 1) := by decide +kernel
theorem dX4_lies_140 : decode cX4_lies 140 = .ok (.goto 4, 3) := by decide +kernel
theorem dX4_lies_143 : decode cX4_lies 143 = .ok (.iconst 0, 1) := by decide +kernel
theorem dX4_lies_144 : decode cX4_lies 144 = .ok (.ireturn, 1) := by decide +kernel
theorem dX4_lies_145 : decode cX4_lies 145 = .ok (.aload_n 0, 1) := by decide +kernel
theorem dX4_lies_146 : decode cX4_lies 146 = .ok (.getfield 56, 3) := by decide +kernel
theorem dX4_lies_149 : decode cX4_lies 149 = .ok (.getfield 237, 3) := by decide +kernel
theorem dX4_lies_152 : decode cX4_lies 152 = .ok (.iconst 1, 1) := by decide +kernel
theorem dX4_lies_153 : decode cX4_lies 153 = .ok (.aaload, 1) := by decide +kernel
theorem dX4_lies_154 : decode cX4_lies 154 = .ok (.aload 4, 2) := by decide +kernel
theorem dX4_lies_156 : decode cX4_lies 156 = .ok (.getfield 249, 3) := by decide +kernel
theorem dX4_lies_159 : decode cX4_lies 159 = .ok (.iload_n 2, 1) := by decide +kernel
theorem dX4_lies_160 : decode cX4_lies 160 = .ok (.iaload, 1) := by decide +kernel
theorem dX4_lies_161 : decode cX4_lies 161 = .ok (.iaload, 1) := by decide +kernel
theorem dX4_lies_162 : decode cX4_lies 162 = .ok (.ireturn, 1) := by decide +kernel
theorem dX4_addPaper_0 : decode cX4_addPaper 0 = .ok (.aload_n 0, 1) := by decide +kernel
theorem dX4_addPaper_1 : decode cX4_addPaper 1 = .ok (.getfield 15, 3) := by decide +kernel
theorem dX4_addPaper_4 : decode cX4_addPaper 4 = .ok (.bipush 30, 2) := by decide +kernel
theorem dX4_addPaper_6 : decode cX4_addPaper 6 = .ok (.if_icmp .lt 6, 3) := by decide +kernel
theorem dX4_addPaper_9 : decode cX4_addPaper 9 = .ok (.bipush (-104), 2) := by decide +kernel
theorem dX4_addPaper_11 : decode cX4_addPaper 11 = .ok (.ireturn, 1) := by decide +kernel
theorem dX4_addPaper_12 : decode cX4_addPaper 12 = .ok (.aload_n 0, 1) := by decide +kernel
theorem dX4_addPaper_13 : decode cX4_addPaper 13 = .ok (.getfield 11, 3) := by decide +kernel
theorem dX4_addPaper_16 : decode cX4_addPaper 16 = .ok (.aload_n 0, 1) := by decide +kernel
theorem dX4_addPaper_17 : decode cX4_addPaper 17 = .ok (.getfield 15, 3) := by decide +kernel
theorem dX4_addPaper_20 : decode cX4_addPaper 20 = .ok (.new 9, 3) := by decide +kernel
theorem dX4_addPaper_23 : decode cX4_addPaper 23 = .ok (.dup, 1) := by decide +kernel
theorem dX4_addPaper_24 : decode cX4_addPaper 24 = .ok (.iload_n 1, 1) := by decide +kernel
theorem dX4_addPaper_25 : decode cX4_addPaper 25 = .ok (.iload_n 2, 1) := by decide +kernel
theorem dX4_addPaper_26 : decode cX4_addPaper 26 = .ok (.iload_n 3, 1) := by decide +kernel
theorem dX4_addPaper_27 : decode cX4_addPaper 27 = .ok (.invokespecial 252, 3) := by decide +kernel
theorem dX4_addPaper_30 : decode cX4_addPaper 30 = .ok (.aastore, 1) := by decide +kernel
theorem dX4_addPaper_31 : decode cX4_addPaper 31 = .ok (.aload_n 0, 1) := by decide +kernel
theorem dX4_addPaper_32 : decode cX4_addPaper 32 = .ok (.dup, 1) := by decide +kernel
theorem dX4_addPaper_33 : decode cX4_addPaper 33 = .ok (.getfield 15, 3) := by decide +kernel
theorem dX4_addPaper_36 : decode cX4_addPaper 36 = .ok (.iconst 1, 1) := by decide +kernel
theorem dX4_addPaper_37 : decode cX4_addPaper 37 = .ok (.iadd, 1) := by decide +kernel
theorem dX4_addPaper_38 : decode cX4_addPaper 38 = .ok (.putfield 15, 3) := by decide +kernel
theorem dX4_addPaper_41 : decode cX4_addPaper 41 = .ok (.aload_n 0, 1) := by decide +kernel
theorem dX4_addPaper_42 : decode cX4_addPaper 42 = .ok (.getfield 15, 3) := by decide +kernel
theorem dX4_addPaper_45 : decode cX4_addPaper 45 = .ok (.iconst 1, 1) := by decide +kernel
theorem dX4_addPaper_46 : decode cX4_addPaper 46 = .ok (.isub, 1) := by decide +kernel
theorem dX4_addPaper_47 : decode cX4_addPaper 47 = .ok (.ireturn, 1) := by decide +kernel
theorem dX4_find_0 : decode cX4_find 0 = .ok (.iload_n 1, 1) := by decide +kernel
theorem dX4_find_1 : decode cX4_find 1 = .ok (.ifCond .lt 11, 3) := by decide +kernel
theorem dX4_find_4 : decode cX4_find 4 = .ok (.iload_n 1, 1) := by decide +kernel
theorem dX4_find_5 : decode cX4_find 5 = .ok (.aload_n 0, 1) := by decide +kernel
theorem dX4_find_6 : decode cX4_find 6 = .ok (.getfield 15, 3) := by decide +kernel
theorem dX4_find_9 : decode cX4_find 9 = .ok (.if_icmp .lt 7, 3) := by decide +kernel
theorem dX4_find_12 : decode cX4_find 12 = .ok (.aconst_null, 1) := by decide +kernel
theorem dX4_find_13 : decode cX4_find 13 = .ok (.goto 9, 3) := by decide +kernel
theorem dX4_find_16 : decode cX4_find 16 = .ok (.aload_n 0, 1) := by decide +kernel
theorem dX4_find_17 : decode cX4_find 17 = .ok (.getfield 11, 3) := by decide +kernel
theorem dX4_find_20 : decode cX4_find 20 = .ok (.iload_n 1, 1) := by decide +kernel
theorem dX4_find_21 : decode cX4_find 21 = .ok (.aaload, 1) := by decide +kernel
theorem dX4_find_22 : decode cX4_find 22 = .ok (.areturn, 1) := by decide +kernel
theorem dX4_has_0 : decode cX4_has 0 = .ok (.iload_n 0, 1) := by decide +kernel
theorem dX4_has_1 : decode cX4_has 1 = .ok (.iload_n 1, 1) := by decide +kernel
theorem dX4_has_2 : decode cX4_has 2 = .ok (.ishr, 1) := by decide +kernel
theorem dX4_has_3 : decode cX4_has 3 = .ok (.iconst 1, 1) := by decide +kernel
theorem dX4_has_4 : decode cX4_has 4 = .ok (.iand, 1) := by decide +kernel
theorem dX4_has_5 : decode cX4_has 5 = .ok (.ifCond .eq 7, 3) := by decide +kernel
theorem dX4_has_8 : decode cX4_has 8 = .ok (.iconst 1, 1) := by decide +kernel
theorem dX4_has_9 : decode cX4_has 9 = .ok (.goto 4, 3) := by decide +kernel
theorem dX4_has_12 : decode cX4_has 12 = .ok (.iconst 0, 1) := by decide +kernel
theorem dX4_has_13 : decode cX4_has 13 = .ok (.ireturn, 1) := by decide +kernel
theorem dX4_readOrder_0 : decode cX4_readOrder 0 = .ok (.lload_n 2, 1) := by decide +kernel
theorem dX4_readOrder_1 : decode cX4_readOrder 1 = .ok (.lstore 4, 2) := by decide +kernel
theorem dX4_readOrder_3 : decode cX4_readOrder 3 = .ok (.iconst 0, 1) := by decide +kernel
theorem dX4_readOrder_4 : decode cX4_readOrder 4 = .ok (.istore 6, 2) := by decide +kernel
theorem dX4_readOrder_6 : decode cX4_readOrder 6 = .ok (.iconst 0, 1) := by decide +kernel
theorem dX4_readOrder_7 : decode cX4_readOrder 7 = .ok (.istore 7, 2) := by decide +kernel
theorem dX4_readOrder_9 : decode cX4_readOrder 9 = .ok (.iload 7, 2) := by decide +kernel
theorem dX4_readOrder_11 : decode cX4_readOrder 11 = .ok (.iload_n 1, 1) := by decide +kernel
theorem dX4_readOrder_12 : decode cX4_readOrder 12 = .ok (.if_icmp .ge 67, 3) := by decide +kernel
theorem dX4_readOrder_15 : decode cX4_readOrder 15 = .ok (.lload 4, 2) := by decide +kernel
theorem dX4_readOrder_17 : decode cX4_readOrder 17 = .ok (.ldc2_w 255, 3) := by decide +kernel
theorem dX4_readOrder_20 : decode cX4_readOrder 20 = .ok (.lrem, 1) := by decide +kernel
theorem dX4_readOrder_21 : decode cX4_readOrder 21 = .ok (.l2i, 1) := by decide +kernel
theorem dX4_readOrder_22 : decode cX4_readOrder 22 = .ok (.istore 8, 2) := by decide +kernel
theorem dX4_readOrder_24 : decode cX4_readOrder 24 = .ok (.lload 4, 2) := by decide +kernel
theorem dX4_readOrder_26 : decode cX4_readOrder 26 = .ok (.ldc2_w 255, 3) := by decide +kernel
theorem dX4_readOrder_29 : decode cX4_readOrder 29 = .ok (.ldiv, 1) := by decide +kernel
theorem dX4_readOrder_30 : decode cX4_readOrder 30 = .ok (.lstore 4, 2) := by decide +kernel
theorem dX4_readOrder_32 : decode cX4_readOrder 32 = .ok (.iload 8, 2) := by decide +kernel
theorem dX4_readOrder_34 : decode cX4_readOrder 34 = .ok (.ifCond .lt 19, 3) := by decide +kernel
theorem dX4_readOrder_37 : decode cX4_readOrder 37 = .ok (.iload 8, 2) := by decide +kernel
theorem dX4_readOrder_39 : decode cX4_readOrder 39 = .ok (.iload_n 1, 1) := by decide +kernel
theorem dX4_readOrder_40 : decode cX4_readOrder 40 = .ok (.if_icmp .ge 13, 3) := by decide +kernel
theorem dX4_readOrder_43 : decode cX4_readOrder 43 = .ok (.iload 6, 2) := by decide +kernel
theorem dX4_readOrder_45 : decode cX4_readOrder 45 = .ok (.iload 8, 2) := by decide +kernel
theorem dX4_readOrder_47 : decode cX4_readOrder 47 = .ok (.invokestatic 205, 3) := by decide +kernel
theorem dX4_readOrder_50 : decode cX4_readOrder 50 = .ok (.ifCond .eq 5, 3) := by decide +kernel
theorem dX4_readOrder_53 : decode cX4_readOrder 53 = .ok (.iconst 0, 1) := by decide +kernel
theorem dX4_readOrder_54 : decode cX4_readOrder 54 = .ok (.ireturn, 1) := by decide +kernel
theorem dX4_readOrder_55 : decode cX4_readOrder 55 = .ok (.iload 6, 2) := by decide +kernel
theorem dX4_readOrder_57 : decode cX4_readOrder 57 = .ok (.iconst 1, 1) := by decide +kernel
theorem dX4_readOrder_58 : decode cX4_readOrder 58 = .ok (.iload 8, 2) := by decide +kernel
theorem dX4_readOrder_60 : decode cX4_readOrder 60 = .ok (.ishl, 1) := by decide +kernel
theorem dX4_readOrder_61 : decode cX4_readOrder 61 = .ok (.ior, 1) := by decide +kernel
theorem dX4_readOrder_62 : decode cX4_readOrder 62 = .ok (.istore 6, 2) := by decide +kernel
theorem dX4_readOrder_64 : decode cX4_readOrder 64 = .ok (.aload_n 0, 1) := by decide +kernel
theorem dX4_readOrder_65 : decode cX4_readOrder 65 = .ok (.getfield 40, 3) := by decide +kernel
theorem dX4_readOrder_68 : decode cX4_readOrder 68 = .ok (.iload 8, 2) := by decide +kernel
theorem dX4_readOrder_70 : decode cX4_readOrder 70 = .ok (.iload 7, 2) := by decide +kernel
theorem dX4_readOrder_72 : decode cX4_readOrder 72 = .ok (.iastore, 1) := by decide +kernel
theorem dX4_readOrder_73 : decode cX4_readOrder 73 = .ok (.iinc 7 1, 3) := by decide +kernel
theorem dX4_readOrder_76 : decode cX4_readOrder 76 = .ok (.goto (-67), 3) := by decide +kernel
theorem dX4_readOrder_79 : decode cX4_readOrder 79 = .ok (.lload 4, 2) := by decide +kernel
theorem dX4_readOrder_81 : decode cX4_readOrder 81 = .ok (.lconst 0, 1) := by decide +kernel
theorem dX4_readOrder_82 : decode cX4_readOrder 82 = .ok (.lcmp, 1) := by decide +kernel
theorem dX4_readOrder_83 : decode cX4_readOrder 83 = .ok (.ifCond .ne 7, 3) := by decide +kernel
theorem dX4_readOrder_86 : decode cX4_readOrder 86 = .ok (.iconst 1, 1) := by decide +kernel
theorem dX4_readOrder_87 : decode cX4_readOrder 87 = .ok (.goto 4, 3) := by decide +kernel
theorem dX4_readOrder_90 : decode cX4_readOrder 90 = .ok (.iconst 0, 1) := by decide +kernel
theorem dX4_readOrder_91 : decode cX4_readOrder 91 = .ok (.ireturn, 1) := by decide +kernel
theorem dX4_canBecome_0 : decode cX4_canBecome 0 = .ok (.aload_n 0, 1) := by decide +kernel
theorem dX4_canBecome_1 : decode cX4_canBecome 1 = .ok (.getfield 22, 3) := by decide +kernel
theorem dX4_canBecome_4 : decode cX4_canBecome 4 = .ok (.aload_n 1, 1) := by decide +kernel
theorem dX4_canBecome_5 : decode cX4_canBecome 5 = .ok (.invokevirtual 127, 3) := by decide +kernel
theorem dX4_canBecome_8 : decode cX4_canBecome 8 = .ok (.aload_n 0, 1) := by decide +kernel
theorem dX4_canBecome_9 : decode cX4_canBecome 9 = .ok (.getfield 22, 3) := by decide +kernel
theorem dX4_canBecome_12 : decode cX4_canBecome 12 = .ok (.iload_n 2, 1) := by decide +kernel
theorem dX4_canBecome_13 : decode cX4_canBecome 13 = .ok (.iload_n 3, 1) := by decide +kernel
theorem dX4_canBecome_14 : decode cX4_canBecome 14 = .ok (.invokevirtual 257, 3) := by decide +kernel
theorem dX4_canBecome_17 : decode cX4_canBecome 17 = .ok (.aload_n 0, 1) := by decide +kernel
theorem dX4_canBecome_18 : decode cX4_canBecome 18 = .ok (.getfield 22, 3) := by decide +kernel
theorem dX4_canBecome_21 : decode cX4_canBecome 21 = .ok (.invokevirtual 131, 3) := by decide +kernel
theorem dX4_canBecome_24 : decode cX4_canBecome 24 = .ok (.ireturn, 1) := by decide +kernel
theorem dX4_canLieBelow_0 : decode cX4_canLieBelow 0 = .ok (.aload_n 0, 1) := by decide +kernel
theorem dX4_canLieBelow_1 : decode cX4_canLieBelow 1 = .ok (.getfield 22, 3) := by decide +kernel
theorem dX4_canLieBelow_4 : decode cX4_canLieBelow 4 = .ok (.aload_n 1, 1) := by decide +kernel
theorem dX4_canLieBelow_5 : decode cX4_canLieBelow 5 = .ok (.invokevirtual 127, 3) := by decide +kernel
theorem dX4_canLieBelow_8 : decode cX4_canLieBelow 8 = .ok (.aload_n 0, 1) := by decide +kernel
theorem dX4_canLieBelow_9 : decode cX4_canLieBelow 9 = .ok (.getfield 22, 3) := by decide +kernel
theorem dX4_canLieBelow_12 : decode cX4_canLieBelow 12 = .ok (.iload_n 2, 1) := by decide +kernel
theorem dX4_canLieBelow_13 : decode cX4_canLieBelow 13 = .ok (.iload_n 3, 1) := by decide +kernel
theorem dX4_canLieBelow_14 : decode cX4_canLieBelow 14 = .ok (.invokevirtual 261, 3) := by decide +kernel
theorem dX4_canLieBelow_17 : decode cX4_canLieBelow 17 = .ok (.aload_n 0, 1) := by decide +kernel
theorem dX4_canLieBelow_18 : decode cX4_canLieBelow 18 = .ok (.getfield 22, 3) := by decide +kernel
theorem dX4_canLieBelow_21 : decode cX4_canLieBelow 21 = .ok (.invokevirtual 131, 3) := by decide +kernel
theorem dX4_canLieBelow_24 : decode cX4_canLieBelow 24 = .ok (.ireturn, 1) := by decide +kernel
theorem dX4_allowsSome_0 : decode cX4_allowsSome 0 = .ok (.aload_n 0, 1) := by decide +kernel
theorem dX4_allowsSome_1 : decode cX4_allowsSome 1 = .ok (.getfield 22, 3) := by decide +kernel
theorem dX4_allowsSome_4 : decode cX4_allowsSome 4 = .ok (.aload_n 1, 1) := by decide +kernel
theorem dX4_allowsSome_5 : decode cX4_allowsSome 5 = .ok (.iload_n 2, 1) := by decide +kernel
theorem dX4_allowsSome_6 : decode cX4_allowsSome 6 = .ok (.invokevirtual 264, 3) := by decide +kernel
theorem dX4_allowsSome_9 : decode cX4_allowsSome 9 = .ok (.aload_n 0, 1) := by decide +kernel
theorem dX4_allowsSome_10 : decode cX4_allowsSome 10 = .ok (.getfield 22, 3) := by decide +kernel
theorem dX4_allowsSome_13 : decode cX4_allowsSome 13 = .ok (.invokevirtual 131, 3) := by decide +kernel
theorem dX4_allowsSome_16 : decode cX4_allowsSome 16 = .ok (.ireturn, 1) := by decide +kernel
theorem dX4_allowTheSame_0 : decode cX4_allowTheSame 0 = .ok (.aload_n 0, 1) := by decide +kernel
theorem dX4_allowTheSame_1 : decode cX4_allowTheSame 1 = .ok (.getfield 22, 3) := by decide +kernel
theorem dX4_allowTheSame_4 : decode cX4_allowTheSame 4 = .ok (.aload_n 1, 1) := by decide +kernel
theorem dX4_allowTheSame_5 : decode cX4_allowTheSame 5 = .ok (.invokevirtual 127, 3) := by decide +kernel
theorem dX4_allowTheSame_8 : decode cX4_allowTheSame 8 = .ok (.aload_n 0, 1) := by decide +kernel
theorem dX4_allowTheSame_9 : decode cX4_allowTheSame 9 = .ok (.getfield 26, 3) := by decide +kernel
theorem dX4_allowTheSame_12 : decode cX4_allowTheSame 12 = .ok (.aload_n 2, 1) := by decide +kernel
theorem dX4_allowTheSame_13 : decode cX4_allowTheSame 13 = .ok (.invokevirtual 127, 3) := by decide +kernel
theorem dX4_allowTheSame_16 : decode cX4_allowTheSame 16 = .ok (.iconst 0, 1) := by decide +kernel
theorem dX4_allowTheSame_17 : decode cX4_allowTheSame 17 = .ok (.istore_n 3, 1) := by decide +kernel
theorem dX4_allowTheSame_18 : decode cX4_allowTheSame 18 = .ok (.iload_n 3, 1) := by decide +kernel
theorem dX4_allowTheSame_19 : decode cX4_allowTheSame 19 = .ok (.ldc 151, 2) := by decide +kernel
theorem dX4_allowTheSame_21 : decode cX4_allowTheSame 21 = .ok (.if_icmp .gt 59, 3) := by decide +kernel
theorem dX4_allowTheSame_24 : decode cX4_allowTheSame 24 = .ok (.aload_n 0, 1) := by decide +kernel
theorem dX4_allowTheSame_25 : decode cX4_allowTheSame 25 = .ok (.getfield 22, 3) := by decide +kernel
theorem dX4_allowTheSame_28 : decode cX4_allowTheSame 28 = .ok (.invokevirtual 131, 3) := by decide +kernel
theorem dX4_allowTheSame_31 : decode cX4_allowTheSame 31 = .ok (.istore 4, 2) := by decide +kernel
theorem dX4_allowTheSame_33 : decode cX4_allowTheSame 33 = .ok (.iload 4, 2) := by decide +kernel
theorem dX4_allowTheSame_35 : decode cX4_allowTheSame 35 = .ok (.aload_n 0, 1) := by decide +kernel
theorem dX4_allowTheSame_36 : decode cX4_allowTheSame 36 = .ok (.getfield 26, 3) := by decide +kernel
theorem dX4_allowTheSame_39 : decode cX4_allowTheSame 39 = .ok (.invokevirtual 131, 3) := by decide +kernel
theorem dX4_allowTheSame_42 : decode cX4_allowTheSame 42 = .ok (.if_icmp .eq 5, 3) := by decide +kernel
theorem dX4_allowTheSame_45 : decode cX4_allowTheSame 45 = .ok (.iconst 0, 1) := by decide +kernel
theorem dX4_allowTheSame_46 : decode cX4_allowTheSame 46 = .ok (.ireturn, 1) := by decide +kernel
theorem dX4_allowTheSame_47 : decode cX4_allowTheSame 47 = .ok (.iload 4, 2) := by decide +kernel
theorem dX4_allowTheSame_49 : decode cX4_allowTheSame 49 = .ok (.ifCond .ne 5, 3) := by decide +kernel
theorem dX4_allowTheSame_52 : decode cX4_allowTheSame 52 = .ok (.iconst 1, 1) := by decide +kernel
theorem dX4_allowTheSame_53 : decode cX4_allowTheSame 53 = .ok (.ireturn, 1) := by decide +kernel
theorem dX4_allowTheSame_54 : decode cX4_allowTheSame 54 = .ok (.aload_n 0, 1) := by decide +kernel
theorem dX4_allowTheSame_55 : decode cX4_allowTheSame 55 = .ok (.getfield 22, 3) := by decide +kernel
theorem dX4_allowTheSame_58 : decode cX4_allowTheSame 58 = .ok (.invokevirtual 156, 3) := by decide +kernel
theorem dX4_allowTheSame_61 : decode cX4_allowTheSame 61 = .ok (.aload_n 0, 1) := by decide +kernel
theorem dX4_allowTheSame_62 : decode cX4_allowTheSame 62 = .ok (.getfield 26, 3) := by decide +kernel
theorem dX4_allowTheSame_65 : decode cX4_allowTheSame 65 = .ok (.invokevirtual 156, 3) := by decide +kernel
theorem dX4_allowTheSame_68 : decode cX4_allowTheSame 68 = .ok (.lcmp, 1) := by decide +kernel
theorem dX4_allowTheSame_69 : decode cX4_allowTheSame 69 = .ok (.ifCond .eq 5, 3) := by decide +kernel
theorem dX4_allowTheSame_72 : decode cX4_allowTheSame 72 = .ok (.iconst 0, 1) := by decide +kernel
theorem dX4_allowTheSame_73 : decode cX4_allowTheSame 73 = .ok (.ireturn, 1) := by decide +kernel
theorem dX4_allowTheSame_74 : decode cX4_allowTheSame 74 = .ok (.iinc 3 1, 3) := by decide +kernel
theorem dX4_allowTheSame_77 : decode cX4_allowTheSame 77 = .ok (.goto (-59), 3) := by decide +kernel
theorem dX4_allowTheSame_80 : decode cX4_allowTheSame 80 = .ok (.iconst 1, 1) := by decide +kernel
theorem dX4_allowTheSame_81 : decode cX4_allowTheSame 81 = .ok (.ireturn, 1) := by decide +kernel
theorem dX4_isNew_0 : decode cX4_isNew 0 = .ok (.lconst 1, 1) := by decide +kernel
theorem dX4_isNew_1 : decode cX4_isNew 1 = .ok (.iload_n 1, 1) := by decide +kernel
theorem dX4_isNew_2 : decode cX4_isNew 2 = .ok (.bipush 63, 2) := by decide +kernel
theorem dX4_isNew_4 : decode cX4_isNew 4 = .ok (.iand, 1) := by decide +kernel
theorem dX4_isNew_5 : decode cX4_isNew 5 = .ok (.lshl, 1) := by decide +kernel
theorem dX4_isNew_6 : decode cX4_isNew 6 = .ok (.lstore_n 2, 1) := by decide +kernel
theorem dX4_isNew_7 : decode cX4_isNew 7 = .ok (.iload_n 1, 1) := by decide +kernel
theorem dX4_isNew_8 : decode cX4_isNew 8 = .ok (.bipush 6, 2) := by decide +kernel
theorem dX4_isNew_10 : decode cX4_isNew 10 = .ok (.ishr, 1) := by decide +kernel
theorem dX4_isNew_11 : decode cX4_isNew 11 = .ok (.istore 4, 2) := by decide +kernel
theorem dX4_isNew_13 : decode cX4_isNew 13 = .ok (.iload 4, 2) := by decide +kernel
theorem dX4_isNew_15 : decode cX4_isNew 15 = .ok (.ifCond .lt 27, 3) := by decide +kernel
theorem dX4_isNew_18 : decode cX4_isNew 18 = .ok (.iload 4, 2) := by decide +kernel
theorem dX4_isNew_20 : decode cX4_isNew 20 = .ok (.aload_n 0, 1) := by decide +kernel
theorem dX4_isNew_21 : decode cX4_isNew 21 = .ok (.getfield 43, 3) := by decide +kernel
theorem dX4_isNew_24 : decode cX4_isNew 24 = .ok (.arraylength, 1) := by decide +kernel
theorem dX4_isNew_25 : decode cX4_isNew 25 = .ok (.if_icmp .ge 17, 3) := by decide +kernel
theorem dX4_isNew_28 : decode cX4_isNew 28 = .ok (.aload_n 0, 1) := by decide +kernel
theorem dX4_isNew_29 : decode cX4_isNew 29 = .ok (.getfield 43, 3) := by decide +kernel
theorem dX4_isNew_32 : decode cX4_isNew 32 = .ok (.iload 4, 2) := by decide +kernel
theorem dX4_isNew_34 : decode cX4_isNew 34 = .ok (.laload, 1) := by decide +kernel
theorem dX4_isNew_35 : decode cX4_isNew 35 = .ok (.lload_n 2, 1) := by decide +kernel
theorem dX4_isNew_36 : decode cX4_isNew 36 = .ok (.land, 1) := by decide +kernel
theorem dX4_isNew_37 : decode cX4_isNew 37 = .ok (.lconst 0, 1) := by decide +kernel
theorem dX4_isNew_38 : decode cX4_isNew 38 = .ok (.lcmp, 1) := by decide +kernel
theorem dX4_isNew_39 : decode cX4_isNew 39 = .ok (.ifCond .eq 5, 3) := by decide +kernel
theorem dX4_isNew_42 : decode cX4_isNew 42 = .ok (.iconst 0, 1) := by decide +kernel
theorem dX4_isNew_43 : decode cX4_isNew 43 = .ok (.ireturn, 1) := by decide +kernel
theorem dX4_isNew_44 : decode cX4_isNew 44 = .ok (.aload_n 0, 1) := by decide +kernel
theorem dX4_isNew_45 : decode cX4_isNew 45 = .ok (.getfield 43, 3) := by decide +kernel
theorem dX4_isNew_48 : decode cX4_isNew 48 = .ok (.iload 4, 2) := by decide +kernel
theorem dX4_isNew_50 : decode cX4_isNew 50 = .ok (.dup2, 1) := by decide +kernel
theorem dX4_isNew_51 : decode cX4_isNew 51 = .ok (.laload, 1) := by decide +kernel
theorem dX4_isNew_52 : decode cX4_isNew 52 = .ok (.lload_n 2, 1) := by decide +kernel
theorem dX4_isNew_53 : decode cX4_isNew 53 = .ok (.lor, 1) := by decide +kernel
theorem dX4_isNew_54 : decode cX4_isNew 54 = .ok (.lastore, 1) := by decide +kernel
theorem dX4_isNew_55 : decode cX4_isNew 55 = .ok (.iconst 1, 1) := by decide +kernel
theorem dX4_isNew_56 : decode cX4_isNew 56 = .ok (.ireturn, 1) := by decide +kernel
end
section
theorem dX5_init_0 : decode cX5_init 0 = .ok (.aload_n 0, 1) := by decide +kernel
theorem dX5_init_1 : decode cX5_init 1 = .ok (.invokespecial 1, 3) := by decide +kernel
theorem dX5_init_4 : decode cX5_init 4 = .ok (.aload_n 0, 1) := by decide +kernel
theorem dX5_init_5 : decode cX5_init 5 = .ok (.bipush 30, 2) := by decide +kernel
theorem dX5_init_7 : decode cX5_init 7 = .ok (.newarray .int, 2) := by decide +kernel
theorem dX5_init_9 : decode cX5_init 9 = .ok (.putfield 7, 3) := by decide +kernel
theorem dX5_init_12 : decode cX5_init 12 = .ok (.aload_n 0, 1) := by decide +kernel
theorem dX5_init_13 : decode cX5_init 13 = .ok (.bipush 30, 2) := by decide +kernel
theorem dX5_init_15 : decode cX5_init 15 = .ok (.newarray .int, 2) := by decide +kernel
theorem dX5_init_17 : decode cX5_init 17 = .ok (.putfield 13, 3) := by decide +kernel
theorem dX5_init_20 : decode cX5_init 20 = .ok (.aload_n 0, 1) := by decide +kernel
theorem dX5_init_21 : decode cX5_init 21 = .ok (.bipush 30, 2) := by decide +kernel
theorem dX5_init_23 : decode cX5_init 23 = .ok (.newarray .int, 2) := by decide +kernel
theorem dX5_init_25 : decode cX5_init 25 = .ok (.putfield 16, 3) := by decide +kernel
theorem dX5_init_28 : decode cX5_init 28 = .ok (.aload_n 0, 1) := by decide +kernel
theorem dX5_init_29 : decode cX5_init 29 = .ok (.bipush 30, 2) := by decide +kernel
theorem dX5_init_31 : decode cX5_init 31 = .ok (.newarray .int, 2) := by decide +kernel
theorem dX5_init_33 : decode cX5_init 33 = .ok (.putfield 19, 3) := by decide +kernel
theorem dX5_init_36 : decode cX5_init 36 = .ok (.aload_n 0, 1) := by decide +kernel
theorem dX5_init_37 : decode cX5_init 37 = .ok (.bipush 30, 2) := by decide +kernel
theorem dX5_init_39 : decode cX5_init 39 = .ok (.newarray .int, 2) := by decide +kernel
theorem dX5_init_41 : decode cX5_init 41 = .ok (.putfield 22, 3) := by decide +kernel
theorem dX5_init_44 : decode cX5_init 44 = .ok (.aload_n 0, 1) := by decide +kernel
theorem dX5_init_45 : decode cX5_init 45 = .ok (.sipush 270, 3) := by decide +kernel
theorem dX5_init_48 : decode cX5_init 48 = .ok (.newarray .int, 2) := by decide +kernel
theorem dX5_init_50 : decode cX5_init 50 = .ok (.putfield 25, 3) := by decide +kernel
theorem dX5_init_53 : decode cX5_init 53 = .ok (.aload_n 0, 1) := by decide +kernel
theorem dX5_init_54 : decode cX5_init 54 = .ok (.sipush 360, 3) := by decide +kernel
theorem dX5_init_57 : decode cX5_init 57 = .ok (.newarray .int, 2) := by decide +kernel
theorem dX5_init_59 : decode cX5_init 59 = .ok (.putfield 28, 3) := by decide +kernel
theorem dX5_init_62 : decode cX5_init 62 = .ok (.aload_n 0, 1) := by decide +kernel
theorem dX5_init_63 : decode cX5_init 63 = .ok (.sipush 360, 3) := by decide +kernel
theorem dX5_init_66 : decode cX5_init 66 = .ok (.newarray .int, 2) := by decide +kernel
theorem dX5_init_68 : decode cX5_init 68 = .ok (.putfield 31, 3) := by decide +kernel
theorem dX5_init_71 : decode cX5_init 71 = .ok (.aload_n 0, 1) := by decide +kernel
theorem dX5_init_72 : decode cX5_init 72 = .ok (.sipush 360, 3) := by decide +kernel
theorem dX5_init_75 : decode cX5_init 75 = .ok (.newarray .int, 2) := by decide +kernel
theorem dX5_init_77 : decode cX5_init 77 = .ok (.putfield 34, 3) := by decide +kernel
theorem dX5_init_80 : decode cX5_init 80 = .ok (.aload_n 0, 1) := by decide +kernel
theorem dX5_init_81 : decode cX5_init 81 = .ok (.bipush 30, 2) := by decide +kernel
theorem dX5_init_83 : decode cX5_init 83 = .ok (.newarray .int, 2) := by decide +kernel
theorem dX5_init_85 : decode cX5_init 85 = .ok (.putfield 37, 3) := by decide +kernel
theorem dX5_init_88 : decode cX5_init 88 = .ok (.aload_n 0, 1) := by decide +kernel
theorem dX5_init_89 : decode cX5_init 89 = .ok (.bipush 30, 2) := by decide +kernel
theorem dX5_init_91 : decode cX5_init 91 = .ok (.newarray .int, 2) := by decide +kernel
theorem dX5_init_93 : decode cX5_init 93 = .ok (.putfield 40, 3) := by decide +kernel
theorem dX5_init_96 : decode cX5_init 96 = .ok (.aload_n 0, 1) := by decide +kernel
theorem dX5_init_97 : decode cX5_init 97 = .ok (.bipush 9, 2) := by decide +kernel
theorem dX5_init_99 : decode cX5_init 99 = .ok (.newarray .int, 2) := by decide +kernel
theorem dX5_init_101 : decode cX5_init 101 = .ok (.putfield 43, 3) := by decide +kernel
theorem dX5_init_104 : decode cX5_init 104 = .ok (.aload_n 0, 1) := by decide +kernel
theorem dX5_init_105 : decode cX5_init 105 = .ok (.bipush 9, 2) := by decide +kernel
theorem dX5_init_107 : decode cX5_init 107 = .ok (.newarray .int, 2) := by decide +kernel
theorem dX5_init_109 : decode cX5_init 109 = .ok (.putfield 46, 3) := by decide +kernel
theorem dX5_init_112 : decode cX5_init 112 = .ok (.aload_n 0, 1) := by decide +kernel
theorem dX5_init_113 : decode cX5_init 113 = .ok (.bipush 12, 2) := by decide +kernel
theorem dX5_init_115 : decode cX5_init 115 = .ok (.newarray .int, 2) := by decide +kernel
theorem dX5_init_117 : decode cX5_init 117 = .ok (.putfield 49, 3) := by decide +kernel
theorem dX5_init_120 : decode cX5_init 120 = .ok (.aload_n 0, 1) := by decide +kernel
theorem dX5_init_121 : decode cX5_init 121 = .ok (.iconst (-1), 1) := by decide +kernel
theorem dX5_init_122 : decode cX5_init 122 = .ok (.putfield 52, 3) := by decide +kernel
theorem dX5_init_125 : decode cX5_init 125 = .ok (.aload_n 0, 1) := by decide +kernel
theorem dX5_init_126 : decode cX5_init 126 = .ok (.bipush 9, 2) := by decide +kernel
theorem dX5_init_128 : decode cX5_init 128 = .ok (.newarray .int, 2) := by decide +kernel
theorem dX5_init_130 : decode cX5_init 130 = .ok (.putfield 56, 3) := by decide +kernel
theorem dX5_init_133 : decode cX5_init 133 = .ok (.aload_n 0, 1) := by decide +kernel
theorem dX5_init_134 : decode cX5_init 134 = .ok (.bipush 9, 2) := by decide +kernel
theorem dX5_init_136 : decode cX5_init 136 = .ok (.newarray .int, 2) := by decide +kernel
theorem dX5_init_138 : decode cX5_init 138 = .ok (.putfield 59, 3) := by decide +kernel
theorem dX5_init_141 : decode cX5_init 141 = .ok (.aload_n 0, 1) := by decide +kernel
theorem dX5_init_142 : decode cX5_init 142 = .ok (.bipush 9, 2) := by decide +kernel
theorem dX5_init_144 : decode cX5_init 144 = .ok (.newarray .int, 2) := by decide +kernel
theorem dX5_init_146 : decode cX5_init 146 = .ok (.putfield 62, 3) := by decide +kernel
theorem dX5_init_149 : decode cX5_init 149 = .ok (.aload_n 0, 1) := by decide +kernel
theorem dX5_init_150 : decode cX5_init 150 = .ok (.sipush 4096, 3) := by decide +kernel
theorem dX5_init_153 : decode cX5_init 153 = .ok (.newarray .boolean, 2) := by decide +kernel
theorem dX5_init_155 : decode cX5_init 155 = .ok (.putfield 65, 3) := by decide +kernel
theorem dX5_init_158 : decode cX5_init 158 = .ok (.aload_n 0, 1) := by decide +kernel
theorem dX5_init_159 : decode cX5_init 159 = .ok (.bipush 12, 2) := by decide +kernel
theorem dX5_init_161 : decode cX5_init 161 = .ok (.newarray .int, 2) := by decide +kernel
theorem dX5_init_163 : decode cX5_init 163 = .ok (.putfield 69, 3) := by decide +kernel
theorem dX5_init_166 : decode cX5_init 166 = .ok (.aload_n 0, 1) := by decide +kernel
theorem dX5_init_167 : decode cX5_init 167 = .ok (.bipush 12, 2) := by decide +kernel
theorem dX5_init_169 : decode cX5_init 169 = .ok (.newarray .int, 2) := by decide +kernel
theorem dX5_init_171 : decode cX5_init 171 = .ok (.putfield 72, 3) := by decide +kernel
theorem dX5_init_174 : decode cX5_init 174 = .ok (.aload_n 0, 1) := by decide +kernel
theorem dX5_init_175 : decode cX5_init 175 = .ok (.ldc 75, 2) := by decide +kernel
theorem dX5_init_177 : decode cX5_init 177 = .ok (.newarray .int, 2) := by decide +kernel
theorem dX5_init_179 : decode cX5_init 179 = .ok (.putfield 76, 3) := by decide +kernel
theorem dX5_init_182 : decode cX5_init 182 = .ok (.aload_n 0, 1) := by decide +kernel
theorem dX5_init_183 : decode cX5_init 183 = .ok (.bipush 16, 2) := by decide +kernel
theorem dX5_init_185 : decode cX5_init 185 = .ok (.newarray .int, 2) := by decide +kernel
theorem dX5_init_187 : decode cX5_init 187 = .ok (.putfield 79, 3) := by decide +kernel
theorem dX5_init_190 : decode cX5_init 190 = .ok (.return_, 1) := by decide +kernel
theorem dX5_lesser_0 : decode cX5_lesser 0 = .ok (.iload_n 0, 1) := by decide +kernel
theorem dX5_lesser_1 : decode cX5_lesser 1 = .ok (.iload_n 1, 1) := by decide +kernel
theorem dX5_lesser_2 : decode cX5_lesser 2 = .ok (.if_icmp .ge 7, 3) := by decide +kernel
theorem dX5_lesser_5 : decode cX5_lesser 5 = .ok (.iload_n 0, 1) := by decide +kernel
theorem dX5_lesser_6 : decode cX5_lesser 6 = .ok (.goto 4, 3) := by decide +kernel
theorem dX5_lesser_9 : decode cX5_lesser 9 = .ok (.iload_n 1, 1) := by decide +kernel
theorem dX5_lesser_10 : decode cX5_lesser 10 = .ok (.ireturn, 1) := by decide +kernel
theorem dX5_greater_0 : decode cX5_greater 0 = .ok (.iload_n 0, 1) := by decide +kernel
theorem dX5_greater_1 : decode cX5_greater 1 = .ok (.iload_n 1, 1) := by decide +kernel
theorem dX5_greater_2 : decode cX5_greater 2 = .ok (.if_icmp .le 7, 3) := by decide +kernel
theorem dX5_greater_5 : decode cX5_greater 5 = .ok (.iload_n 0, 1) := by decide +kernel
theorem dX5_greater_6 : decode cX5_greater 6 = .ok (.goto 4, 3) := by decide +kernel
theorem dX5_greater_9 : decode cX5_greater 9 = .ok (.iload_n 1, 1) := by decide +kernel
theorem dX5_greater_10 : decode cX5_greater 10 = .ok (.ireturn, 1) := by decide +kernel
theorem dX5_bits_0 : decode cX5_bits 0 = .ok (.iconst 0, 1) := by decide +kernel
theorem dX5_bits_1 : decode cX5_bits 1 = .ok (.istore_n 1, 1) := by decide +kernel
theorem dX5_bits_2 : decode cX5_bits 2 = .ok (.iload_n 0, 1) := by decide +kernel
theorem dX5_bits_3 : decode cX5_bits 3 = .ok (.istore_n 2, 1) := by decide +kernel
theorem dX5_bits_4 : decode cX5_bits 4 = .ok (.iload_n 2, 1) := by decide +kernel
theorem dX5_bits_5 : decode cX5_bits 5 = .ok (.ifCond .eq 15, 3) := by decide +kernel
theorem dX5_bits_8 : decode cX5_bits 8 = .ok (.iinc 1 1, 3) := by decide +kernel
theorem dX5_bits_11 : decode cX5_bits 11 = .ok (.iload_n 2, 1) := by decide +kernel
theorem dX5_bits_12 : decode cX5_bits 12 = .ok (.iload_n 2, 1) := by decide +kernel
theorem dX5_bits_13 : decode cX5_bits 13 = .ok (.iconst 1, 1) := by decide +kernel
theorem dX5_bits_14 : decode cX5_bits 14 = .ok (.isub, 1) := by decide +kernel
theorem dX5_bits_15 : decode cX5_bits 15 = .ok (.iand, 1) := by decide +kernel
theorem dX5_bits_16 : decode cX5_bits 16 = .ok (.istore_n 2, 1) := by decide +kernel
theorem dX5_bits_17 : decode cX5_bits 17 = .ok (.goto (-13), 3) := by decide +kernel
theorem dX5_bits_20 : decode cX5_bits 20 = .ok (.iload_n 1, 1) := by decide +kernel
theorem dX5_bits_21 : decode cX5_bits 21 = .ok (.ireturn, 1) := by decide +kernel
theorem dX5_has_0 : decode cX5_has 0 = .ok (.iload_n 1, 1) := by decide +kernel
theorem dX5_has_1 : decode cX5_has 1 = .ok (.ifCond .lt 15, 3) := by decide +kernel
theorem dX5_has_4 : decode cX5_has 4 = .ok (.iload_n 1, 1) := by decide +kernel
theorem dX5_has_5 : decode cX5_has 5 = .ok (.aload_n 0, 1) := by decide +kernel
theorem dX5_has_6 : decode cX5_has 6 = .ok (.getfield 82, 3) := by decide +kernel
theorem dX5_has_9 : decode cX5_has 9 = .ok (.if_icmp .ge 7, 3) := by decide +kernel
theorem dX5_has_12 : decode cX5_has 12 = .ok (.iconst 1, 1) := by decide +kernel
theorem dX5_has_13 : decode cX5_has 13 = .ok (.goto 4, 3) := by decide +kernel
theorem dX5_has_16 : decode cX5_has 16 = .ok (.iconst 0, 1) := by decide +kernel
theorem dX5_has_17 : decode cX5_has 17 = .ok (.ireturn, 1) := by decide +kernel
theorem dX5_hasFace_0 : decode cX5_hasFace 0 = .ok (.aload_n 0, 1) := by decide +kernel
theorem dX5_hasFace_1 : decode cX5_hasFace 1 = .ok (.iload_n 1, 1) := by decide +kernel
theorem dX5_hasFace_2 : decode cX5_hasFace 2 = .ok (.invokevirtual 85, 3) := by decide +kernel
theorem dX5_hasFace_5 : decode cX5_hasFace 5 = .ok (.ifCond .eq 21, 3) := by decide +kernel
theorem dX5_hasFace_8 : decode cX5_hasFace 8 = .ok (.iload_n 2, 1) := by decide +kernel
theorem dX5_hasFace_9 : decode cX5_hasFace 9 = .ok (.ifCond .lt 17, 3) := by decide +kernel
theorem dX5_hasFace_12 : decode cX5_hasFace 12 = .ok (.iload_n 2, 1) := by decide +kernel
theorem dX5_hasFace_13 : decode cX5_hasFace 13 = .ok (.aload_n 0, 1) := by decide +kernel
theorem dX5_hasFace_14 : decode cX5_hasFace 14 = .ok (.getfield 13, 3) := by decide +kernel
theorem dX5_hasFace_17 : decode cX5_hasFace 17 = .ok (.iload_n 1, 1) := by decide +kernel
theorem dX5_hasFace_18 : decode cX5_hasFace 18 = .ok (.iaload, 1) := by decide +kernel
theorem dX5_hasFace_19 : decode cX5_hasFace 19 = .ok (.if_icmp .ge 7, 3) := by decide +kernel
theorem dX5_hasFace_22 : decode cX5_hasFace 22 = .ok (.iconst 1, 1) := by decide +kernel
theorem dX5_hasFace_23 : decode cX5_hasFace 23 = .ok (.goto 4, 3) := by decide +kernel
theorem dX5_hasFace_26 : decode cX5_hasFace 26 = .ok (.iconst 0, 1) := by decide +kernel
theorem dX5_hasFace_27 : decode cX5_hasFace 27 = .ok (.ireturn, 1) := by decide +kernel
theorem dX5_hasCrease_0 : decode cX5_hasCrease 0 = .ok (.aload_n 0, 1) := by decide +kernel
theorem dX5_hasCrease_1 : decode cX5_hasCrease 1 = .ok (.iload_n 1, 1) := by decide +kernel
theorem dX5_hasCrease_2 : decode cX5_hasCrease 2 = .ok (.invokevirtual 85, 3) := by decide +kernel
theorem dX5_hasCrease_5 : decode cX5_hasCrease 5 = .ok (.ifCond .eq 21, 3) := by decide +kernel
theorem dX5_hasCrease_8 : decode cX5_hasCrease 8 = .ok (.iload_n 2, 1) := by decide +kernel
theorem dX5_hasCrease_9 : decode cX5_hasCrease 9 = .ok (.ifCond .lt 17, 3) := by decide +kernel
theorem dX5_hasCrease_12 : decode cX5_hasCrease 12 = .ok (.iload_n 2, 1) := by decide +kernel
theorem dX5_hasCrease_13 : decode cX5_hasCrease 13 = .ok (.aload_n 0, 1) := by decide +kernel
theorem dX5_hasCrease_14 : decode cX5_hasCrease 14 = .ok (.getfield 22, 3) := by decide +kernel
theorem dX5_hasCrease_17 : decode cX5_hasCrease 17 = .ok (.iload_n 1, 1) := by decide +kernel
theorem dX5_hasCrease_18 : decode cX5_hasCrease 18 = .ok (.iaload, 1) := by decide +kernel
theorem dX5_hasCrease_19 : decode cX5_hasCrease 19 = .ok (.if_icmp .ge 7, 3) := by decide +kernel
theorem dX5_hasCrease_22 : decode cX5_hasCrease 22 = .ok (.iconst 1, 1) := by decide +kernel
theorem dX5_hasCrease_23 : decode cX5_hasCrease 23 = .ok (.goto 4, 3) := by decide +kernel
theorem dX5_hasCrease_26 : decode cX5_hasCrease 26 = .ok (.iconst 0, 1) := by decide +kernel
theorem dX5_hasCrease_27 : decode cX5_hasCrease 27 = .ok (.ireturn, 1) := by decide +kernel
theorem dX5_add_0 : decode cX5_add 0 = .ok (.aload_n 0, 1) := by decide +kernel
theorem dX5_add_1 : decode cX5_add 1 = .ok (.getfield 82, 3) := by decide +kernel
theorem dX5_add_4 : decode cX5_add 4 = .ok (.istore_n 3, 1) := by decide +kernel
theorem dX5_add_5 : decode cX5_add 5 = .ok (.aload_n 0, 1) := by decide +kernel
theorem dX5_add_6 : decode cX5_add 6 = .ok (.getfield 7, 3) := by decide +kernel
theorem dX5_add_9 : decode cX5_add 9 = .ok (.iload_n 3, 1) := by decide +kernel
theorem dX5_add_10 : decode cX5_add 10 = .ok (.iload_n 1, 1) := by decide +kernel
theorem dX5_add_11 : decode cX5_add 11 = .ok (.iastore, 1) := by decide +kernel
theorem dX5_add_12 : decode cX5_add 12 = .ok (.aload_n 0, 1) := by decide +kernel
theorem dX5_add_13 : decode cX5_add 13 = .ok (.getfield 13, 3) := by decide +kernel
theorem dX5_add_16 : decode cX5_add 16 = .ok (.iload_n 3, 1) := by decide +kernel
theorem dX5_add_17 : decode cX5_add 17 = .ok (.iload_n 2, 1) := by decide +kernel
theorem dX5_add_18 : decode cX5_add 18 = .ok (.iastore, 1) := by decide +kernel
theorem dX5_add_19 : decode cX5_add 19 = .ok (.aload_n 0, 1) := by decide +kernel
theorem dX5_add_20 : decode cX5_add 20 = .ok (.getfield 16, 3) := by decide +kernel
theorem dX5_add_23 : decode cX5_add 23 = .ok (.iload_n 3, 1) := by decide +kernel
theorem dX5_add_24 : decode cX5_add 24 = .ok (.iconst 1, 1) := by decide +kernel
theorem dX5_add_25 : decode cX5_add 25 = .ok (.iastore, 1) := by decide +kernel
theorem dX5_add_26 : decode cX5_add 26 = .ok (.aload_n 0, 1) := by decide +kernel
theorem dX5_add_27 : decode cX5_add 27 = .ok (.getfield 19, 3) := by decide +kernel
theorem dX5_add_30 : decode cX5_add 30 = .ok (.iload_n 3, 1) := by decide +kernel
theorem dX5_add_31 : decode cX5_add 31 = .ok (.iload_n 2, 1) := by decide +kernel
theorem dX5_add_32 : decode cX5_add 32 = .ok (.iastore, 1) := by decide +kernel
theorem dX5_add_33 : decode cX5_add 33 = .ok (.aload_n 0, 1) := by decide +kernel
theorem dX5_add_34 : decode cX5_add 34 = .ok (.getfield 22, 3) := by decide +kernel
theorem dX5_add_37 : decode cX5_add 37 = .ok (.iload_n 3, 1) := by decide +kernel
theorem dX5_add_38 : decode cX5_add 38 = .ok (.iconst 0, 1) := by decide +kernel
theorem dX5_add_39 : decode cX5_add 39 = .ok (.iastore, 1) := by decide +kernel
theorem dX5_add_40 : decode cX5_add 40 = .ok (.aload_n 0, 1) := by decide +kernel
theorem dX5_add_41 : decode cX5_add 41 = .ok (.getfield 37, 3) := by decide +kernel
theorem dX5_add_44 : decode cX5_add 44 = .ok (.iload_n 3, 1) := by decide +kernel
theorem dX5_add_45 : decode cX5_add 45 = .ok (.iconst 0, 1) := by decide +kernel
theorem dX5_add_46 : decode cX5_add 46 = .ok (.iastore, 1) := by decide +kernel
theorem dX5_add_47 : decode cX5_add 47 = .ok (.aload_n 0, 1) := by decide +kernel
theorem dX5_add_48 : decode cX5_add 48 = .ok (.getfield 40, 3) := by decide +kernel
theorem dX5_add_51 : decode cX5_add 51 = .ok (.iload_n 3, 1) := by decide +kernel
theorem dX5_add_52 : decode cX5_add 52 = .ok (.iconst 0, 1) := by decide +kernel
theorem dX5_add_53 : decode cX5_add 53 = .ok (.iastore, 1) := by decide +kernel
theorem dX5_add_54 : decode cX5_add 54 = .ok (.iconst 0, 1) := by decide +kernel
theorem dX5_add_55 : decode cX5_add 55 = .ok (.istore 4, 2) := by decide +kernel
theorem dX5_add_57 : decode cX5_add 57 = .ok (.iload 4, 2) := by decide +kernel
theorem dX5_add_59 : decode cX5_add 59 = .ok (.bipush 9, 2) := by decide +kernel
theorem dX5_add_61 : decode cX5_add 61 = .ok (.if_icmp .ge 22, 3) := by decide +kernel
theorem dX5_add_64 : decode cX5_add 64 = .ok (.aload_n 0, 1) := by decide +kernel
theorem dX5_add_65 : decode cX5_add 65 = .ok (.getfield 25, 3) := by decide +kernel
theorem dX5_add_68 : decode cX5_add 68 = .ok (.bipush 9, 2) := by decide +kernel
theorem dX5_add_70 : decode cX5_add 70 = .ok (.iload_n 3, 1) := by decide +kernel
theorem dX5_add_71 : decode cX5_add 71 = .ok (.imul, 1) := by decide +kernel
theorem dX5_add_72 : decode cX5_add 72 = .ok (.iload 4, 2) := by decide +kernel
theorem dX5_add_74 : decode cX5_add 74 = .ok (.iadd, 1) := by decide +kernel
theorem dX5_add_75 : decode cX5_add 75 = .ok (.iconst 1, 1) := by decide +kernel
theorem dX5_add_76 : decode cX5_add 76 = .ok (.iastore, 1) := by decide +kernel
theorem dX5_add_77 : decode cX5_add 77 = .ok (.iinc 4 1, 3) := by decide +kernel
theorem dX5_add_80 : decode cX5_add 80 = .ok (.goto (-23), 3) := by decide +kernel
theorem dX5_add_83 : decode cX5_add 83 = .ok (.aload_n 0, 1) := by decide +kernel
theorem dX5_add_84 : decode cX5_add 84 = .ok (.dup, 1) := by decide +kernel
theorem dX5_add_85 : decode cX5_add 85 = .ok (.getfield 82, 3) := by decide +kernel
theorem dX5_add_88 : decode cX5_add 88 = .ok (.iconst 1, 1) := by decide +kernel
theorem dX5_add_89 : decode cX5_add 89 = .ok (.iadd, 1) := by decide +kernel
theorem dX5_add_90 : decode cX5_add 90 = .ok (.putfield 82, 3) := by decide +kernel
theorem dX5_add_93 : decode cX5_add 93 = .ok (.iload_n 3, 1) := by decide +kernel
theorem dX5_add_94 : decode cX5_add 94 = .ok (.ireturn, 1) := by decide +kernel
theorem dX5_addCrease_0 : decode cX5_addCrease 0 = .ok (.bipush 12, 2) := by decide +kernel
theorem dX5_addCrease_2 : decode cX5_addCrease 2 = .ok (.iload_n 1, 1) := by decide +kernel
theorem dX5_addCrease_3 : decode cX5_addCrease 3 = .ok (.imul, 1) := by decide +kernel
theorem dX5_addCrease_4 : decode cX5_addCrease 4 = .ok (.aload_n 0, 1) := by decide +kernel
theorem dX5_addCrease_5 : decode cX5_addCrease 5 = .ok (.getfield 22, 3) := by decide +kernel
theorem dX5_addCrease_8 : decode cX5_addCrease 8 = .ok (.iload_n 1, 1) := by decide +kernel
theorem dX5_addCrease_9 : decode cX5_addCrease 9 = .ok (.iaload, 1) := by decide +kernel
theorem dX5_addCrease_10 : decode cX5_addCrease 10 = .ok (.iadd, 1) := by decide +kernel
theorem dX5_addCrease_11 : decode cX5_addCrease 11 = .ok (.istore 4, 2) := by decide +kernel
theorem dX5_addCrease_13 : decode cX5_addCrease 13 = .ok (.aload_n 0, 1) := by decide +kernel
theorem dX5_addCrease_14 : decode cX5_addCrease 14 = .ok (.getfield 28, 3) := by decide +kernel
theorem dX5_addCrease_17 : decode cX5_addCrease 17 = .ok (.iload 4, 2) := by decide +kernel
theorem dX5_addCrease_19 : decode cX5_addCrease 19 = .ok (.iload_n 2, 1) := by decide +kernel
theorem dX5_addCrease_20 : decode cX5_addCrease 20 = .ok (.iastore, 1) := by decide +kernel
theorem dX5_addCrease_21 : decode cX5_addCrease 21 = .ok (.aload_n 0, 1) := by decide +kernel
theorem dX5_addCrease_22 : decode cX5_addCrease 22 = .ok (.getfield 31, 3) := by decide +kernel
theorem dX5_addCrease_25 : decode cX5_addCrease 25 = .ok (.iload 4, 2) := by decide +kernel
theorem dX5_addCrease_27 : decode cX5_addCrease 27 = .ok (.iload_n 3, 1) := by decide +kernel
theorem dX5_addCrease_28 : decode cX5_addCrease 28 = .ok (.iastore, 1) := by decide +kernel
theorem dX5_addCrease_29 : decode cX5_addCrease 29 = .ok (.aload_n 0, 1) := by decide +kernel
theorem dX5_addCrease_30 : decode cX5_addCrease 30 = .ok (.getfield 34, 3) := by decide +kernel
theorem dX5_addCrease_33 : decode cX5_addCrease 33 = .ok (.iload 4, 2) := by decide +kernel
theorem dX5_addCrease_35 : decode cX5_addCrease 35 = .ok (.iconst 0, 1) := by decide +kernel
theorem dX5_addCrease_36 : decode cX5_addCrease 36 = .ok (.iastore, 1) := by decide +kernel
theorem dX5_addCrease_37 : decode cX5_addCrease 37 = .ok (.aload_n 0, 1) := by decide +kernel
theorem dX5_addCrease_38 : decode cX5_addCrease 38 = .ok (.getfield 22, 3) := by decide +kernel
theorem dX5_addCrease_41 : decode cX5_addCrease 41 = .ok (.iload_n 1, 1) := by decide +kernel
theorem dX5_addCrease_42 : decode cX5_addCrease 42 = .ok (.dup2, 1) := by decide +kernel
theorem dX5_addCrease_43 : decode cX5_addCrease 43 = .ok (.iaload, 1) := by decide +kernel
theorem dX5_addCrease_44 : decode cX5_addCrease 44 = .ok (.iconst 1, 1) := by decide +kernel
theorem dX5_addCrease_45 : decode cX5_addCrease 45 = .ok (.iadd, 1) := by decide +kernel
theorem dX5_addCrease_46 : decode cX5_addCrease 46 = .ok (.iastore, 1) := by decide +kernel
theorem dX5_addCrease_47 : decode cX5_addCrease 47 = .ok (.return_, 1) := by decide +kernel
theorem dX5_strip_0 : decode cX5_strip 0 = .ok (.iload_n 1, 1) := by decide +kernel
theorem dX5_strip_1 : decode cX5_strip 1 = .ok (.iconst 1, 1) := by decide +kernel
theorem dX5_strip_2 : decode cX5_strip 2 = .ok (.if_icmp .lt 9, 3) := by decide +kernel
theorem dX5_strip_5 : decode cX5_strip 5 = .ok (.iload_n 1, 1) := by decide +kernel
theorem dX5_strip_6 : decode cX5_strip 6 = .ok (.bipush 9, 2) := by decide +kernel
theorem dX5_strip_8 : decode cX5_strip 8 = .ok (.if_icmp .le 6, 3) := by decide +kernel
theorem dX5_strip_11 : decode cX5_strip 11 = .ok (.bipush (-102), 2) := by decide +kernel
theorem dX5_strip_13 : decode cX5_strip 13 = .ok (.ireturn, 1) := by decide +kernel
theorem dX5_strip_14 : decode cX5_strip 14 = .ok (.aload_n 0, 1) := by decide +kernel
theorem dX5_strip_15 : decode cX5_strip 15 = .ok (.getfield 82, 3) := by decide +kernel
theorem dX5_strip_18 : decode cX5_strip 18 = .ok (.bipush 30, 2) := by decide +kernel
theorem dX5_strip_20 : decode cX5_strip 20 = .ok (.if_icmp .ne 6, 3) := by decide +kernel
theorem dX5_strip_23 : decode cX5_strip 23 = .ok (.bipush (-104), 2) := by decide +kernel
theorem dX5_strip_25 : decode cX5_strip 25 = .ok (.ireturn, 1) := by decide +kernel
theorem dX5_strip_26 : decode cX5_strip 26 = .ok (.aload_n 0, 1) := by decide +kernel
theorem dX5_strip_27 : decode cX5_strip 27 = .ok (.iconst 0, 1) := by decide +kernel
theorem dX5_strip_28 : decode cX5_strip 28 = .ok (.iload_n 1, 1) := by decide +kernel
theorem dX5_strip_29 : decode cX5_strip 29 = .ok (.invokevirtual 89, 3) := by decide +kernel
theorem dX5_strip_32 : decode cX5_strip 32 = .ok (.istore_n 2, 1) := by decide +kernel
theorem dX5_strip_33 : decode cX5_strip 33 = .ok (.iconst 0, 1) := by decide +kernel
theorem dX5_strip_34 : decode cX5_strip 34 = .ok (.istore_n 3, 1) := by decide +kernel
theorem dX5_strip_35 : decode cX5_strip 35 = .ok (.iload_n 3, 1) := by decide +kernel
theorem dX5_strip_36 : decode cX5_strip 36 = .ok (.iconst 1, 1) := by decide +kernel
theorem dX5_strip_37 : decode cX5_strip 37 = .ok (.iadd, 1) := by decide +kernel
theorem dX5_strip_38 : decode cX5_strip 38 = .ok (.iload_n 1, 1) := by decide +kernel
theorem dX5_strip_39 : decode cX5_strip 39 = .ok (.if_icmp .ge 18, 3) := by decide +kernel
theorem dX5_strip_42 : decode cX5_strip 42 = .ok (.aload_n 0, 1) := by decide +kernel
theorem dX5_strip_43 : decode cX5_strip 43 = .ok (.iload_n 2, 1) := by decide +kernel
theorem dX5_strip_44 : decode cX5_strip 44 = .ok (.iload_n 3, 1) := by decide +kernel
theorem dX5_strip_45 : decode cX5_strip 45 = .ok (.iload_n 3, 1) := by decide +kernel
theorem dX5_strip_46 : decode cX5_strip 46 = .ok (.iconst 1, 1) := by decide +kernel
theorem dX5_strip_47 : decode cX5_strip 47 = .ok (.iadd, 1) := by decide +kernel
theorem dX5_strip_48 : decode cX5_strip 48 = .ok (.invokevirtual 93, 3) := by decide +kernel
theorem dX5_strip_51 : decode cX5_strip 51 = .ok (.iinc 3 1, 3) := by decide +kernel
theorem dX5_strip_54 : decode cX5_strip 54 = .ok (.goto (-19), 3) := by decide +kernel
theorem dX5_strip_57 : decode cX5_strip 57 = .ok (.iload_n 2, 1) := by decide +kernel
theorem dX5_strip_58 : decode cX5_strip 58 = .ok (.ireturn, 1) := by decide +kernel
theorem dX5_corner_0 : decode cX5_corner 0 = .ok (.iload_n 1, 1) := by decide +kernel
theorem dX5_corner_1 : decode cX5_corner 1 = .ok (.iconst 2, 1) := by decide +kernel
theorem dX5_corner_2 : decode cX5_corner 2 = .ok (.if_icmp .lt 9, 3) := by decide +kernel
theorem dX5_corner_5 : decode cX5_corner 5 = .ok (.iload_n 1, 1) := by decide +kernel
theorem dX5_corner_6 : decode cX5_corner 6 = .ok (.bipush 9, 2) := by decide +kernel
theorem dX5_corner_8 : decode cX5_corner 8 = .ok (.if_icmp .le 6, 3) := by decide +kernel
theorem dX5_corner_11 : decode cX5_corner 11 = .ok (.bipush (-102), 2) := by decide +kernel
theorem dX5_corner_13 : decode cX5_corner 13 = .ok (.ireturn, 1) := by decide +kernel
theorem dX5_corner_14 : decode cX5_corner 14 = .ok (.aload_n 0, 1) := by decide +kernel
theorem dX5_corner_15 : decode cX5_corner 15 = .ok (.getfield 82, 3) := by decide +kernel
theorem dX5_corner_18 : decode cX5_corner 18 = .ok (.bipush 30, 2) := by decide +kernel
theorem dX5_corner_20 : decode cX5_corner 20 = .ok (.if_icmp .ne 6, 3) := by decide +kernel
theorem dX5_corner_23 : decode cX5_corner 23 = .ok (.bipush (-104), 2) := by decide +kernel
theorem dX5_corner_25 : decode cX5_corner 25 = .ok (.ireturn, 1) := by decide +kernel
theorem dX5_corner_26 : decode cX5_corner 26 = .ok (.aload_n 0, 1) := by decide +kernel
theorem dX5_corner_27 : decode cX5_corner 27 = .ok (.iconst 1, 1) := by decide +kernel
theorem dX5_corner_28 : decode cX5_corner 28 = .ok (.iload_n 1, 1) := by decide +kernel
theorem dX5_corner_29 : decode cX5_corner 29 = .ok (.invokevirtual 89, 3) := by decide +kernel
theorem dX5_corner_32 : decode cX5_corner 32 = .ok (.istore_n 2, 1) := by decide +kernel
theorem dX5_corner_33 : decode cX5_corner 33 = .ok (.iconst 0, 1) := by decide +kernel
theorem dX5_corner_34 : decode cX5_corner 34 = .ok (.istore_n 3, 1) := by decide +kernel
theorem dX5_corner_35 : decode cX5_corner 35 = .ok (.iload_n 3, 1) := by decide +kernel
theorem dX5_corner_36 : decode cX5_corner 36 = .ok (.iload_n 1, 1) := by decide +kernel
theorem dX5_corner_37 : decode cX5_corner 37 = .ok (.if_icmp .ge 20, 3) := by decide +kernel
theorem dX5_corner_40 : decode cX5_corner 40 = .ok (.aload_n 0, 1) := by decide +kernel
theorem dX5_corner_41 : decode cX5_corner 41 = .ok (.iload_n 2, 1) := by decide +kernel
theorem dX5_corner_42 : decode cX5_corner 42 = .ok (.iload_n 3, 1) := by decide +kernel
theorem dX5_corner_43 : decode cX5_corner 43 = .ok (.iload_n 3, 1) := by decide +kernel
theorem dX5_corner_44 : decode cX5_corner 44 = .ok (.iconst 1, 1) := by decide +kernel
theorem dX5_corner_45 : decode cX5_corner 45 = .ok (.iadd, 1) := by decide +kernel
theorem dX5_corner_46 : decode cX5_corner 46 = .ok (.iload_n 1, 1) := by decide +kernel
theorem dX5_corner_47 : decode cX5_corner 47 = .ok (.irem, 1) := by decide +kernel
theorem dX5_corner_48 : decode cX5_corner 48 = .ok (.invokevirtual 93, 3) := by decide +kernel
theorem dX5_corner_51 : decode cX5_corner 51 = .ok (.iinc 3 1, 3) := by decide +kernel
theorem dX5_corner_54 : decode cX5_corner 54 = .ok (.goto (-19), 3) := by decide +kernel
theorem dX5_corner_57 : decode cX5_corner 57 = .ok (.iload_n 2, 1) := by decide +kernel
theorem dX5_corner_58 : decode cX5_corner 58 = .ok (.ireturn, 1) := by decide +kernel
theorem dX5_map_0 : decode cX5_map 0 = .ok (.iload_n 1, 1) := by decide +kernel
theorem dX5_map_1 : decode cX5_map 1 = .ok (.iconst 1, 1) := by decide +kernel
theorem dX5_map_2 : decode cX5_map 2 = .ok (.if_icmp .lt 28, 3) := by decide +kernel
theorem dX5_map_5 : decode cX5_map 5 = .ok (.iload_n 2, 1) := by decide +kernel
theorem dX5_map_6 : decode cX5_map 6 = .ok (.iconst 1, 1) := by decide +kernel
theorem dX5_map_7 : decode cX5_map 7 = .ok (.if_icmp .lt 23, 3) := by decide +kernel
theorem dX5_map_10 : decode cX5_map 10 = .ok (.iload_n 1, 1) := by decide +kernel
theorem dX5_map_11 : decode cX5_map 11 = .ok (.bipush 9, 2) := by decide +kernel
theorem dX5_map_13 : decode cX5_map 13 = .ok (.if_icmp .gt 17, 3) := by decide +kernel
theorem dX5_map_16 : decode cX5_map 16 = .ok (.iload_n 2, 1) := by decide +kernel
theorem dX5_map_17 : decode cX5_map 17 = .ok (.bipush 9, 2) := by decide +kernel
theorem dX5_map_19 : decode cX5_map 19 = .ok (.if_icmp .gt 11, 3) := by decide +kernel
theorem dX5_map_22 : decode cX5_map 22 = .ok (.iload_n 1, 1) := by decide +kernel
theorem dX5_map_23 : decode cX5_map 23 = .ok (.iload_n 2, 1) := by decide +kernel
theorem dX5_map_24 : decode cX5_map 24 = .ok (.imul, 1) := by decide +kernel
theorem dX5_map_25 : decode cX5_map 25 = .ok (.bipush 9, 2) := by decide +kernel
theorem dX5_map_27 : decode cX5_map 27 = .ok (.if_icmp .le 6, 3) := by decide +kernel
theorem dX5_map_30 : decode cX5_map 30 = .ok (.bipush (-102), 2) := by decide +kernel
theorem dX5_map_32 : decode cX5_map 32 = .ok (.ireturn, 1) := by decide +kernel
theorem dX5_map_33 : decode cX5_map 33 = .ok (.aload_n 0, 1) := by decide +kernel
theorem dX5_map_34 : decode cX5_map 34 = .ok (.getfield 82, 3) := by decide +kernel
theorem dX5_map_37 : decode cX5_map 37 = .ok (.bipush 30, 2) := by decide +kernel
theorem dX5_map_39 : decode cX5_map 39 = .ok (.if_icmp .ne 6, 3) := by decide +kernel
theorem dX5_map_42 : decode cX5_map 42 = .ok (.bipush (-104), 2) := by decide +kernel
theorem dX5_map_44 : decode cX5_map 44 = .ok (.ireturn, 1) := by decide +kernel
theorem dX5_map_45 : decode cX5_map 45 = .ok (.aload_n 0, 1) := by decide +kernel
theorem dX5_map_46 : decode cX5_map 46 = .ok (.iconst 2, 1) := by decide +kernel
theorem dX5_map_47 : decode cX5_map 47 = .ok (.iload_n 1, 1) := by decide +kernel
theorem dX5_map_48 : decode cX5_map 48 = .ok (.iload_n 2, 1) := by decide +kernel
theorem dX5_map_49 : decode cX5_map 49 = .ok (.imul, 1) := by decide +kernel
theorem dX5_map_50 : decode cX5_map 50 = .ok (.invokevirtual 89, 3) := by decide +kernel
theorem dX5_map_53 : decode cX5_map 53 = .ok (.istore_n 3, 1) := by decide +kernel
theorem dX5_map_54 : decode cX5_map 54 = .ok (.aload_n 0, 1) := by decide +kernel
theorem dX5_map_55 : decode cX5_map 55 = .ok (.getfield 16, 3) := by decide +kernel
theorem dX5_map_58 : decode cX5_map 58 = .ok (.iload_n 3, 1) := by decide +kernel
theorem dX5_map_59 : decode cX5_map 59 = .ok (.iload_n 1, 1) := by decide +kernel
theorem dX5_map_60 : decode cX5_map 60 = .ok (.iastore, 1) := by decide +kernel
theorem dX5_map_61 : decode cX5_map 61 = .ok (.aload_n 0, 1) := by decide +kernel
theorem dX5_map_62 : decode cX5_map 62 = .ok (.getfield 19, 3) := by decide +kernel
theorem dX5_map_65 : decode cX5_map 65 = .ok (.iload_n 3, 1) := by decide +kernel
theorem dX5_map_66 : decode cX5_map 66 = .ok (.iload_n 2, 1) := by decide +kernel
theorem dX5_map_67 : decode cX5_map 67 = .ok (.iastore, 1) := by decide +kernel
theorem dX5_map_68 : decode cX5_map 68 = .ok (.iconst 0, 1) := by decide +kernel
theorem dX5_map_69 : decode cX5_map 69 = .ok (.istore 4, 2) := by decide +kernel
theorem dX5_map_71 : decode cX5_map 71 = .ok (.iload 4, 2) := by decide +kernel
theorem dX5_map_73 : decode cX5_map 73 = .ok (.iload_n 1, 1) := by decide +kernel
theorem dX5_map_74 : decode cX5_map 74 = .ok (.if_icmp .ge 47, 3) := by decide +kernel
theorem dX5_map_77 : decode cX5_map 77 = .ok (.iconst 0, 1) := by decide +kernel
theorem dX5_map_78 : decode cX5_map 78 = .ok (.istore 5, 2) := by decide +kernel
theorem dX5_map_80 : decode cX5_map 80 = .ok (.iload 5, 2) := by decide +kernel
theorem dX5_map_82 : decode cX5_map 82 = .ok (.iconst 1, 1) := by decide +kernel
theorem dX5_map_83 : decode cX5_map 83 = .ok (.iadd, 1) := by decide +kernel
theorem dX5_map_84 : decode cX5_map 84 = .ok (.iload_n 2, 1) := by decide +kernel
theorem dX5_map_85 : decode cX5_map 85 = .ok (.if_icmp .ge 30, 3) := by decide +kernel
theorem dX5_map_88 : decode cX5_map 88 = .ok (.aload_n 0, 1) := by decide +kernel
theorem dX5_map_89 : decode cX5_map 89 = .ok (.iload_n 3, 1) := by decide +kernel
theorem dX5_map_90 : decode cX5_map 90 = .ok (.iload 4, 2) := by decide +kernel
theorem dX5_map_92 : decode cX5_map 92 = .ok (.iload_n 2, 1) := by decide +kernel
theorem dX5_map_93 : decode cX5_map 93 = .ok (.imul, 1) := by decide +kernel
theorem dX5_map_94 : decode cX5_map 94 = .ok (.iload 5, 2) := by decide +kernel
theorem dX5_map_96 : decode cX5_map 96 = .ok (.iadd, 1) := by decide +kernel
theorem dX5_map_97 : decode cX5_map 97 = .ok (.iload 4, 2) := by decide +kernel
theorem dX5_map_99 : decode cX5_map 99 = .ok (.iload_n 2, 1) := by decide +kernel
theorem dX5_map_100 : decode cX5_map 100 = .ok (.imul, 1) := by decide +kernel
theorem dX5_map_101 : decode cX5_map 101 = .ok (.iload 5, 2) := by decide +kernel
theorem dX5_map_103 : decode cX5_map 103 = .ok (.iadd, 1) := by decide +kernel
theorem dX5_map_104 : decode cX5_map 104 = .ok (.iconst 1, 1) := by decide +kernel
theorem dX5_map_105 : decode cX5_map 105 = .ok (.iadd, 1) := by decide +kernel
theorem dX5_map_106 : decode cX5_map 106 = .ok (.invokevirtual 93, 3) := by decide +kernel
theorem dX5_map_109 : decode cX5_map 109 = .ok (.iinc 5 1, 3) := by decide +kernel
theorem dX5_map_112 : decode cX5_map 112 = .ok (.goto (-32), 3) := by decide +kernel
theorem dX5_map_115 : decode cX5_map 115 = .ok (.iinc 4 1, 3) := by decide +kernel
theorem dX5_map_118 : decode cX5_map 118 = .ok (.goto (-47), 3) := by decide +kernel
theorem dX5_map_121 : decode cX5_map 121 = .ok (.iconst 0, 1) := by decide +kernel
theorem dX5_map_122 : decode cX5_map 122 = .ok (.istore 4, 2) := by decide +kernel
theorem dX5_map_124 : decode cX5_map 124 = .ok (.iload 4, 2) := by decide +kernel
theorem dX5_map_126 : decode cX5_map 126 = .ok (.iconst 1, 1) := by decide +kernel
theorem dX5_map_127 : decode cX5_map 127 = .ok (.iadd, 1) := by decide +kernel
theorem dX5_map_128 : decode cX5_map 128 = .ok (.iload_n 1, 1) := by decide +kernel
theorem dX5_map_129 : decode cX5_map 129 = .ok (.if_icmp .ge 45, 3) := by decide +kernel
theorem dX5_map_132 : decode cX5_map 132 = .ok (.iconst 0, 1) := by decide +kernel
theorem dX5_map_133 : decode cX5_map 133 = .ok (.istore 5, 2) := by decide +kernel
theorem dX5_map_135 : decode cX5_map 135 = .ok (.iload 5, 2) := by decide +kernel
theorem dX5_map_137 : decode cX5_map 137 = .ok (.iload_n 2, 1) := by decide +kernel
theorem dX5_map_138 : decode cX5_map 138 = .ok (.if_icmp .ge 30, 3) := by decide +kernel
theorem dX5_map_141 : decode cX5_map 141 = .ok (.aload_n 0, 1) := by decide +kernel
theorem dX5_map_142 : decode cX5_map 142 = .ok (.iload_n 3, 1) := by decide +kernel
theorem dX5_map_143 : decode cX5_map 143 = .ok (.iload 4, 2) := by decide +kernel
theorem dX5_map_145 : decode cX5_map 145 = .ok (.iload_n 2, 1) := by decide +kernel
theorem dX5_map_146 : decode cX5_map 146 = .ok (.imul, 1) := by decide +kernel
theorem dX5_map_147 : decode cX5_map 147 = .ok (.iload 5, 2) := by decide +kernel
theorem dX5_map_149 : decode cX5_map 149 = .ok (.iadd, 1) := by decide +kernel
theorem dX5_map_150 : decode cX5_map 150 = .ok (.iload 4, 2) := by decide +kernel
theorem dX5_map_152 : decode cX5_map 152 = .ok (.iload_n 2, 1) := by decide +kernel
theorem dX5_map_153 : decode cX5_map 153 = .ok (.imul, 1) := by decide +kernel
theorem dX5_map_154 : decode cX5_map 154 = .ok (.iload 5, 2) := by decide +kernel
theorem dX5_map_156 : decode cX5_map 156 = .ok (.iadd, 1) := by decide +kernel
theorem dX5_map_157 : decode cX5_map 157 = .ok (.iload_n 2, 1) := by decide +kernel
theorem dX5_map_158 : decode cX5_map 158 = .ok (.iadd, 1) := by decide +kernel
theorem dX5_map_159 : decode cX5_map 159 = .ok (.invokevirtual 93, 3) := by decide +kernel
theorem dX5_map_162 : decode cX5_map 162 = .ok (.iinc 5 1, 3) := by decide +kernel
theorem dX5_map_165 : decode cX5_map 165 = .ok (.goto (-30), 3) := by decide +kernel
theorem dX5_map_168 : decode cX5_map 168 = .ok (.iinc 4 1, 3) := by decide +kernel
theorem dX5_map_171 : decode cX5_map 171 = .ok (.goto (-47), 3) := by decide +kernel
theorem dX5_map_174 : decode cX5_map 174 = .ok (.iload_n 3, 1) := by decide +kernel
theorem dX5_map_175 : decode cX5_map 175 = .ok (.ireturn, 1) := by decide +kernel
theorem dX5_length_0 : decode cX5_length 0 = .ok (.aload_n 0, 1) := by decide +kernel
theorem dX5_length_1 : decode cX5_length 1 = .ok (.iload_n 1, 1) := by decide +kernel
theorem dX5_length_2 : decode cX5_length 2 = .ok (.iload_n 2, 1) := by decide +kernel
theorem dX5_length_3 : decode cX5_length 3 = .ok (.invokevirtual 97, 3) := by decide +kernel
theorem dX5_length_6 : decode cX5_length 6 = .ok (.ifCond .ne 6, 3) := by decide +kernel
theorem dX5_length_9 : decode cX5_length 9 = .ok (.bipush (-101), 2) := by decide +kernel
theorem dX5_length_11 : decode cX5_length 11 = .ok (.ireturn, 1) := by decide +kernel
theorem dX5_length_12 : decode cX5_length 12 = .ok (.iload_n 3, 1) := by decide +kernel
theorem dX5_length_13 : decode cX5_length 13 = .ok (.iconst 1, 1) := by decide +kernel
theorem dX5_length_14 : decode cX5_length 14 = .ok (.if_icmp .lt 10, 3) := by decide +kernel
theorem dX5_length_17 : decode cX5_length 17 = .ok (.iload_n 3, 1) := by decide +kernel
theorem dX5_length_18 : decode cX5_length 18 = .ok (.sipush 1000, 3) := by decide +kernel
theorem dX5_length_21 : decode cX5_length 21 = .ok (.if_icmp .le 6, 3) := by decide +kernel
theorem dX5_length_24 : decode cX5_length 24 = .ok (.bipush (-102), 2) := by decide +kernel
theorem dX5_length_26 : decode cX5_length 26 = .ok (.ireturn, 1) := by decide +kernel
theorem dX5_length_27 : decode cX5_length 27 = .ok (.aload_n 0, 1) := by decide +kernel
theorem dX5_length_28 : decode cX5_length 28 = .ok (.getfield 7, 3) := by decide +kernel
theorem dX5_length_31 : decode cX5_length 31 = .ok (.iload_n 1, 1) := by decide +kernel
theorem dX5_length_32 : decode cX5_length 32 = .ok (.iaload, 1) := by decide +kernel
theorem dX5_length_33 : decode cX5_length 33 = .ok (.iconst 2, 1) := by decide +kernel
theorem dX5_length_34 : decode cX5_length 34 = .ok (.if_icmp .ne 6, 3) := by decide +kernel
theorem dX5_length_37 : decode cX5_length 37 = .ok (.bipush (-103), 2) := by decide +kernel
theorem dX5_length_39 : decode cX5_length 39 = .ok (.ireturn, 1) := by decide +kernel
theorem dX5_length_40 : decode cX5_length 40 = .ok (.aload_n 0, 1) := by decide +kernel
theorem dX5_length_41 : decode cX5_length 41 = .ok (.getfield 25, 3) := by decide +kernel
theorem dX5_length_44 : decode cX5_length 44 = .ok (.bipush 9, 2) := by decide +kernel
theorem dX5_length_46 : decode cX5_length 46 = .ok (.iload_n 1, 1) := by decide +kernel
theorem dX5_length_47 : decode cX5_length 47 = .ok (.imul, 1) := by decide +kernel
theorem dX5_length_48 : decode cX5_length 48 = .ok (.iload_n 2, 1) := by decide +kernel
theorem dX5_length_49 : decode cX5_length 49 = .ok (.iadd, 1) := by decide +kernel
theorem dX5_length_50 : decode cX5_length 50 = .ok (.iaload, 1) := by decide +kernel
theorem dX5_length_51 : decode cX5_length 51 = .ok (.istore 4, 2) := by decide +kernel
theorem dX5_length_53 : decode cX5_length 53 = .ok (.aload_n 0, 1) := by decide +kernel
theorem dX5_length_54 : decode cX5_length 54 = .ok (.getfield 25, 3) := by decide +kernel
theorem dX5_length_57 : decode cX5_length 57 = .ok (.bipush 9, 2) := by decide +kernel
theorem dX5_length_59 : decode cX5_length 59 = .ok (.iload_n 1, 1) := by decide +kernel
theorem dX5_length_60 : decode cX5_length 60 = .ok (.imul, 1) := by decide +kernel
theorem dX5_length_61 : decode cX5_length 61 = .ok (.iload_n 2, 1) := by decide +kernel
theorem dX5_length_62 : decode cX5_length 62 = .ok (.iadd, 1) := by decide +kernel
theorem dX5_length_63 : decode cX5_length 63 = .ok (.iload_n 3, 1) := by decide +kernel
theorem dX5_length_64 : decode cX5_length 64 = .ok (.iastore, 1) := by decide +kernel
theorem dX5_length_65 : decode cX5_length 65 = .ok (.iload 4, 2) := by decide +kernel
theorem dX5_length_67 : decode cX5_length 67 = .ok (.ireturn, 1) := by decide +kernel
theorem dX5_mark_0 : decode cX5_mark 0 = .ok (.aload_n 0, 1) := by decide +kernel
theorem dX5_mark_1 : decode cX5_mark 1 = .ok (.iload_n 1, 1) := by decide +kernel
theorem dX5_mark_2 : decode cX5_mark 2 = .ok (.iload_n 2, 1) := by decide +kernel
theorem dX5_mark_3 : decode cX5_mark 3 = .ok (.invokevirtual 101, 3) := by decide +kernel
theorem dX5_mark_6 : decode cX5_mark 6 = .ok (.ifCond .ne 6, 3) := by decide +kernel
theorem dX5_mark_9 : decode cX5_mark 9 = .ok (.bipush (-101), 2) := by decide +kernel
theorem dX5_mark_11 : decode cX5_mark 11 = .ok (.ireturn, 1) := by decide +kernel
theorem dX5_mark_12 : decode cX5_mark 12 = .ok (.iload_n 3, 1) := by decide +kernel
theorem dX5_mark_13 : decode cX5_mark 13 = .ok (.ifCond .lt 8, 3) := by decide +kernel
theorem dX5_mark_16 : decode cX5_mark 16 = .ok (.iload_n 3, 1) := by decide +kernel
theorem dX5_mark_17 : decode cX5_mark 17 = .ok (.iconst 2, 1) := by decide +kernel
theorem dX5_mark_18 : decode cX5_mark 18 = .ok (.if_icmp .le 6, 3) := by decide +kernel
theorem dX5_mark_21 : decode cX5_mark 21 = .ok (.bipush (-102), 2) := by decide +kernel
theorem dX5_mark_23 : decode cX5_mark 23 = .ok (.ireturn, 1) := by decide +kernel
theorem dX5_mark_24 : decode cX5_mark 24 = .ok (.aload_n 0, 1) := by decide +kernel
theorem dX5_mark_25 : decode cX5_mark 25 = .ok (.getfield 34, 3) := by decide +kernel
theorem dX5_mark_28 : decode cX5_mark 28 = .ok (.bipush 12, 2) := by decide +kernel
theorem dX5_mark_30 : decode cX5_mark 30 = .ok (.iload_n 1, 1) := by decide +kernel
theorem dX5_mark_31 : decode cX5_mark 31 = .ok (.imul, 1) := by decide +kernel
theorem dX5_mark_32 : decode cX5_mark 32 = .ok (.iload_n 2, 1) := by decide +kernel
theorem dX5_mark_33 : decode cX5_mark 33 = .ok (.iadd, 1) := by decide +kernel
theorem dX5_mark_34 : decode cX5_mark 34 = .ok (.iaload, 1) := by decide +kernel
theorem dX5_mark_35 : decode cX5_mark 35 = .ok (.istore 4, 2) := by decide +kernel
theorem dX5_mark_37 : decode cX5_mark 37 = .ok (.aload_n 0, 1) := by decide +kernel
theorem dX5_mark_38 : decode cX5_mark 38 = .ok (.getfield 34, 3) := by decide +kernel
theorem dX5_mark_41 : decode cX5_mark 41 = .ok (.bipush 12, 2) := by decide +kernel
theorem dX5_mark_43 : decode cX5_mark 43 = .ok (.iload_n 1, 1) := by decide +kernel
theorem dX5_mark_44 : decode cX5_mark 44 = .ok (.imul, 1) := by decide +kernel
theorem dX5_mark_45 : decode cX5_mark 45 = .ok (.iload_n 2, 1) := by decide +kernel
theorem dX5_mark_46 : decode cX5_mark 46 = .ok (.iadd, 1) := by decide +kernel
theorem dX5_mark_47 : decode cX5_mark 47 = .ok (.iload_n 3, 1) := by decide +kernel
theorem dX5_mark_48 : decode cX5_mark 48 = .ok (.iastore, 1) := by decide +kernel
theorem dX5_mark_49 : decode cX5_mark 49 = .ok (.iload 4, 2) := by decide +kernel
theorem dX5_mark_51 : decode cX5_mark 51 = .ok (.ireturn, 1) := by decide +kernel
theorem dX5_uneven_0 : decode cX5_uneven 0 = .ok (.iconst 0, 1) := by decide +kernel
theorem dX5_uneven_1 : decode cX5_uneven 1 = .ok (.istore_n 2, 1) := by decide +kernel
theorem dX5_uneven_2 : decode cX5_uneven 2 = .ok (.iconst 0, 1) := by decide +kernel
theorem dX5_uneven_3 : decode cX5_uneven 3 = .ok (.istore_n 3, 1) := by decide +kernel
theorem dX5_uneven_4 : decode cX5_uneven 4 = .ok (.iload_n 3, 1) := by decide +kernel
theorem dX5_uneven_5 : decode cX5_uneven 5 = .ok (.aload_n 0, 1) := by decide +kernel
theorem dX5_uneven_6 : decode cX5_uneven 6 = .ok (.getfield 13, 3) := by decide +kernel
theorem dX5_uneven_9 : decode cX5_uneven 9 = .ok (.iload_n 1, 1) := by decide +kernel
theorem dX5_uneven_10 : decode cX5_uneven 10 = .ok (.iaload, 1) := by decide +kernel
theorem dX5_uneven_11 : decode cX5_uneven 11 = .ok (.if_icmp .ge 44, 3) := by decide +kernel
theorem dX5_uneven_14 : decode cX5_uneven 14 = .ok (.iload_n 2, 1) := by decide +kernel
theorem dX5_uneven_15 : decode cX5_uneven 15 = .ok (.iload_n 3, 1) := by decide +kernel
theorem dX5_uneven_16 : decode cX5_uneven 16 = .ok (.iconst 2, 1) := by decide +kernel
theorem dX5_uneven_17 : decode cX5_uneven 17 = .ok (.irem, 1) := by decide +kernel
theorem dX5_uneven_18 : decode cX5_uneven 18 = .ok (.ifCond .ne 17, 3) := by decide +kernel
theorem dX5_uneven_21 : decode cX5_uneven 21 = .ok (.aload_n 0, 1) := by decide +kernel
theorem dX5_uneven_22 : decode cX5_uneven 22 = .ok (.getfield 25, 3) := by decide +kernel
theorem dX5_uneven_25 : decode cX5_uneven 25 = .ok (.bipush 9, 2) := by decide +kernel
theorem dX5_uneven_27 : decode cX5_uneven 27 = .ok (.iload_n 1, 1) := by decide +kernel
theorem dX5_uneven_28 : decode cX5_uneven 28 = .ok (.imul, 1) := by decide +kernel
theorem dX5_uneven_29 : decode cX5_uneven 29 = .ok (.iload_n 3, 1) := by decide +kernel
theorem dX5_uneven_30 : decode cX5_uneven 30 = .ok (.iadd, 1) := by decide +kernel
theorem dX5_uneven_31 : decode cX5_uneven 31 = .ok (.iaload, 1) := by decide +kernel
theorem dX5_uneven_32 : decode cX5_uneven 32 = .ok (.goto 15, 3) := by decide +kernel
theorem dX5_uneven_35 : decode cX5_uneven 35 = .ok (.aload_n 0, 1) := by decide +kernel
theorem dX5_uneven_36 : decode cX5_uneven 36 = .ok (.getfield 25, 3) := by decide +kernel
theorem dX5_uneven_39 : decode cX5_uneven 39 = .ok (.bipush 9, 2) := by decide +kernel
theorem dX5_uneven_41 : decode cX5_uneven 41 = .ok (.iload_n 1, 1) := by decide +kernel
theorem dX5_uneven_42 : decode cX5_uneven 42 = .ok (.imul, 1) := by decide +kernel
theorem dX5_uneven_43 : decode cX5_uneven 43 = .ok (.iload_n 3, 1) := by decide +kernel
theorem dX5_uneven_44 : decode cX5_uneven 44 = .ok (.iadd, 1) := by decide +kernel
theorem dX5_uneven_45 : decode cX5_uneven 45 = .ok (.iaload, 1) := by decide +kernel
theorem dX5_uneven_46 : decode cX5_uneven 46 = .ok (.ineg, 1) := by decide +kernel
theorem dX5_uneven_47 : decode cX5_uneven 47 = .ok (.iadd, 1) := by decide +kernel
theorem dX5_uneven_48 : decode cX5_uneven 48 = .ok (.istore_n 2, 1) := by decide +kernel
theorem dX5_uneven_49 : decode cX5_uneven 49 = .ok (.iinc 3 1, 3) := by decide +kernel
theorem dX5_uneven_52 : decode cX5_uneven 52 = .ok (.goto (-48), 3) := by decide +kernel
theorem dX5_uneven_55 : decode cX5_uneven 55 = .ok (.iload_n 2, 1) := by decide +kernel
theorem dX5_uneven_56 : decode cX5_uneven 56 = .ok (.ireturn, 1) := by decide +kernel
theorem dX5_marked_0 : decode cX5_marked 0 = .ok (.iconst 0, 1) := by decide +kernel
theorem dX5_marked_1 : decode cX5_marked 1 = .ok (.istore_n 3, 1) := by decide +kernel
theorem dX5_marked_2 : decode cX5_marked 2 = .ok (.iconst 0, 1) := by decide +kernel
theorem dX5_marked_3 : decode cX5_marked 3 = .ok (.istore 4, 2) := by decide +kernel
theorem dX5_marked_5 : decode cX5_marked 5 = .ok (.iload 4, 2) := by decide +kernel
theorem dX5_marked_7 : decode cX5_marked 7 = .ok (.aload_n 0, 1) := by decide +kernel
theorem dX5_marked_8 : decode cX5_marked 8 = .ok (.getfield 22, 3) := by decide +kernel
theorem dX5_marked_11 : decode cX5_marked 11 = .ok (.iload_n 1, 1) := by decide +kernel
theorem dX5_marked_12 : decode cX5_marked 12 = .ok (.iaload, 1) := by decide +kernel
theorem dX5_marked_13 : decode cX5_marked 13 = .ok (.if_icmp .ge 33, 3) := by decide +kernel
theorem dX5_marked_16 : decode cX5_marked 16 = .ok (.iload_n 3, 1) := by decide +kernel
theorem dX5_marked_17 : decode cX5_marked 17 = .ok (.aload_n 0, 1) := by decide +kernel
theorem dX5_marked_18 : decode cX5_marked 18 = .ok (.getfield 34, 3) := by decide +kernel
theorem dX5_marked_21 : decode cX5_marked 21 = .ok (.bipush 12, 2) := by decide +kernel
theorem dX5_marked_23 : decode cX5_marked 23 = .ok (.iload_n 1, 1) := by decide +kernel
theorem dX5_marked_24 : decode cX5_marked 24 = .ok (.imul, 1) := by decide +kernel
theorem dX5_marked_25 : decode cX5_marked 25 = .ok (.iload 4, 2) := by decide +kernel
theorem dX5_marked_27 : decode cX5_marked 27 = .ok (.iadd, 1) := by decide +kernel
theorem dX5_marked_28 : decode cX5_marked 28 = .ok (.iaload, 1) := by decide +kernel
theorem dX5_marked_29 : decode cX5_marked 29 = .ok (.iload_n 2, 1) := by decide +kernel
theorem dX5_marked_30 : decode cX5_marked 30 = .ok (.if_icmp .ne 7, 3) := by decide +kernel
theorem dX5_marked_33 : decode cX5_marked 33 = .ok (.iconst 1, 1) := by decide +kernel
theorem dX5_marked_34 : decode cX5_marked 34 = .ok (.goto 4, 3) := by decide +kernel
theorem dX5_marked_37 : decode cX5_marked 37 = .ok (.iconst 0, 1) := by decide +kernel
theorem dX5_marked_38 : decode cX5_marked 38 = .ok (.iadd, 1) := by decide +kernel
theorem dX5_marked_39 : decode cX5_marked 39 = .ok (.istore_n 3, 1) := by decide +kernel
theorem dX5_marked_40 : decode cX5_marked 40 = .ok (.iinc 4 1, 3) := by decide +kernel
theorem dX5_marked_43 : decode cX5_marked 43 = .ok (.goto (-38), 3) := by decide +kernel
theorem dX5_marked_46 : decode cX5_marked 46 = .ok (.iload_n 3, 1) := by decide +kernel
theorem dX5_marked_47 : decode cX5_marked 47 = .ok (.ireturn, 1) := by decide +kernel
theorem dX5_about_0 : decode cX5_about 0 = .ok (.aload_n 0, 1) := by decide +kernel
theorem dX5_about_1 : decode cX5_about 1 = .ok (.iload_n 1, 1) := by decide +kernel
theorem dX5_about_2 : decode cX5_about 2 = .ok (.invokevirtual 85, 3) := by decide +kernel
theorem dX5_about_5 : decode cX5_about 5 = .ok (.ifCond .ne 6, 3) := by decide +kernel
theorem dX5_about_8 : decode cX5_about 8 = .ok (.bipush (-101), 2) := by decide +kernel
theorem dX5_about_10 : decode cX5_about 10 = .ok (.ireturn, 1) := by decide +kernel
theorem dX5_about_11 : decode cX5_about 11 = .ok (.iload_n 2, 1) := by decide +kernel
theorem dX5_about_12 : decode cX5_about 12 = .ok (.tableswitch 95 0 5 #[40, 47, 54, 61, 68, 75], 40) := by decide +kernel
theorem dX5_about_52 : decode cX5_about 52 = .ok (.aload_n 0, 1) := by decide +kernel
theorem dX5_about_53 : decode cX5_about 53 = .ok (.getfield 7, 3) := by decide +kernel
theorem dX5_about_56 : decode cX5_about 56 = .ok (.iload_n 1, 1) := by decide +kernel
theorem dX5_about_57 : decode cX5_about 57 = .ok (.iaload, 1) := by decide +kernel
theorem dX5_about_58 : decode cX5_about 58 = .ok (.ireturn, 1) := by decide +kernel
theorem dX5_about_59 : decode cX5_about 59 = .ok (.aload_n 0, 1) := by decide +kernel
theorem dX5_about_60 : decode cX5_about 60 = .ok (.getfield 13, 3) := by decide +kernel
theorem dX5_about_63 : decode cX5_about 63 = .ok (.iload_n 1, 1) := by decide +kernel
theorem dX5_about_64 : decode cX5_about 64 = .ok (.iaload, 1) := by decide +kernel
theorem dX5_about_65 : decode cX5_about 65 = .ok (.ireturn, 1) := by decide +kernel
theorem dX5_about_66 : decode cX5_about 66 = .ok (.aload_n 0, 1) := by decide +kernel
theorem dX5_about_67 : decode cX5_about 67 = .ok (.getfield 22, 3) := by decide +kernel
theorem dX5_about_70 : decode cX5_about 70 = .ok (.iload_n 1, 1) := by decide +kernel
theorem dX5_about_71 : decode cX5_about 71 = .ok (.iaload, 1) := by decide +kernel
theorem dX5_about_72 : decode cX5_about 72 = .ok (.ireturn, 1) := by decide +kernel
theorem dX5_about_73 : decode cX5_about 73 = .ok (.aload_n 0, 1) := by decide +kernel
theorem dX5_about_74 : decode cX5_about 74 = .ok (.iload_n 1, 1) := by decide +kernel
theorem dX5_about_75 : decode cX5_about 75 = .ok (.iconst 1, 1) := by decide +kernel
theorem dX5_about_76 : decode cX5_about 76 = .ok (.invokevirtual 104, 3) := by decide +kernel
theorem dX5_about_79 : decode cX5_about 79 = .ok (.ireturn, 1) := by decide +kernel
theorem dX5_about_80 : decode cX5_about 80 = .ok (.aload_n 0, 1) := by decide +kernel
theorem dX5_about_81 : decode cX5_about 81 = .ok (.iload_n 1, 1) := by decide +kernel
theorem dX5_about_82 : decode cX5_about 82 = .ok (.iconst 2, 1) := by decide +kernel
theorem dX5_about_83 : decode cX5_about 83 = .ok (.invokevirtual 104, 3) := by decide +kernel
theorem dX5_about_86 : decode cX5_about 86 = .ok (.ireturn, 1) := by decide +kernel
theorem dX5_about_87 : decode cX5_about 87 = .ok (.aload_n 0, 1) := by decide +kernel
theorem dX5_about_88 : decode cX5_about 88 = .ok (.getfield 7, 3) := by decide +kernel
theorem dX5_about_91 : decode cX5_about 91 = .ok (.iload_n 1, 1) := by decide +kernel
theorem dX5_about_92 : decode cX5_about 92 = .ok (.iaload, 1) := by decide +kernel
theorem dX5_about_93 : decode cX5_about 93 = .ok (.iconst 1, 1) := by decide +kernel
theorem dX5_about_94 : decode cX5_about 94 = .ok (.if_icmp .ne 11, 3) := by decide +kernel
theorem dX5_about_97 : decode cX5_about 97 = .ok (.aload_n 0, 1) := by decide +kernel
theorem dX5_about_98 : decode cX5_about 98 = .ok (.iload_n 1, 1) := by decide +kernel
theorem dX5_about_99 : decode cX5_about 99 = .ok (.invokevirtual 107, 3) := by decide +kernel
theorem dX5_about_102 : decode cX5_about 102 = .ok (.goto 4, 3) := by decide +kernel
theorem dX5_about_105 : decode cX5_about 105 = .ok (.iconst 0, 1) := by decide +kernel
theorem dX5_about_106 : decode cX5_about 106 = .ok (.ireturn, 1) := by decide +kernel
theorem dX5_about_107 : decode cX5_about 107 = .ok (.bipush (-102), 2) := by decide +kernel
theorem dX5_about_109 : decode cX5_about 109 = .ok (.ireturn, 1) := by decide +kernel
theorem dX5_begins_0 : decode cX5_begins 0 = .ok (.iconst 0, 1) := by decide +kernel
theorem dX5_begins_1 : decode cX5_begins 1 = .ok (.istore_n 3, 1) := by decide +kernel
theorem dX5_begins_2 : decode cX5_begins 2 = .ok (.iconst 0, 1) := by decide +kernel
theorem dX5_begins_3 : decode cX5_begins 3 = .ok (.istore 4, 2) := by decide +kernel
theorem dX5_begins_5 : decode cX5_begins 5 = .ok (.iload 4, 2) := by decide +kernel
theorem dX5_begins_7 : decode cX5_begins 7 = .ok (.iload_n 2, 1) := by decide +kernel
theorem dX5_begins_8 : decode cX5_begins 8 = .ok (.if_icmp .ge 47, 3) := by decide +kernel
theorem dX5_begins_11 : decode cX5_begins 11 = .ok (.iload_n 3, 1) := by decide +kernel
theorem dX5_begins_12 : decode cX5_begins 12 = .ok (.iload 4, 2) := by decide +kernel
theorem dX5_begins_14 : decode cX5_begins 14 = .ok (.iconst 2, 1) := by decide +kernel
theorem dX5_begins_15 : decode cX5_begins 15 = .ok (.irem, 1) := by decide +kernel
theorem dX5_begins_16 : decode cX5_begins 16 = .ok (.ifCond .ne 18, 3) := by decide +kernel
theorem dX5_begins_19 : decode cX5_begins 19 = .ok (.aload_n 0, 1) := by decide +kernel
theorem dX5_begins_20 : decode cX5_begins 20 = .ok (.getfield 25, 3) := by decide +kernel
theorem dX5_begins_23 : decode cX5_begins 23 = .ok (.bipush 9, 2) := by decide +kernel
theorem dX5_begins_25 : decode cX5_begins 25 = .ok (.iload_n 1, 1) := by decide +kernel
theorem dX5_begins_26 : decode cX5_begins 26 = .ok (.imul, 1) := by decide +kernel
theorem dX5_begins_27 : decode cX5_begins 27 = .ok (.iload 4, 2) := by decide +kernel
theorem dX5_begins_29 : decode cX5_begins 29 = .ok (.iadd, 1) := by decide +kernel
theorem dX5_begins_30 : decode cX5_begins 30 = .ok (.iaload, 1) := by decide +kernel
theorem dX5_begins_31 : decode cX5_begins 31 = .ok (.goto 16, 3) := by decide +kernel
theorem dX5_begins_34 : decode cX5_begins 34 = .ok (.aload_n 0, 1) := by decide +kernel
theorem dX5_begins_35 : decode cX5_begins 35 = .ok (.getfield 25, 3) := by decide +kernel
theorem dX5_begins_38 : decode cX5_begins 38 = .ok (.bipush 9, 2) := by decide +kernel
theorem dX5_begins_40 : decode cX5_begins 40 = .ok (.iload_n 1, 1) := by decide +kernel
theorem dX5_begins_41 : decode cX5_begins 41 = .ok (.imul, 1) := by decide +kernel
theorem dX5_begins_42 : decode cX5_begins 42 = .ok (.iload 4, 2) := by decide +kernel
theorem dX5_begins_44 : decode cX5_begins 44 = .ok (.iadd, 1) := by decide +kernel
theorem dX5_begins_45 : decode cX5_begins 45 = .ok (.iaload, 1) := by decide +kernel
theorem dX5_begins_46 : decode cX5_begins 46 = .ok (.ineg, 1) := by decide +kernel
theorem dX5_begins_47 : decode cX5_begins 47 = .ok (.iadd, 1) := by decide +kernel
theorem dX5_begins_48 : decode cX5_begins 48 = .ok (.istore_n 3, 1) := by decide +kernel
theorem dX5_begins_49 : decode cX5_begins 49 = .ok (.iinc 4 1, 3) := by decide +kernel
theorem dX5_begins_52 : decode cX5_begins 52 = .ok (.goto (-47), 3) := by decide +kernel
theorem dX5_begins_55 : decode cX5_begins 55 = .ok (.iload_n 3, 1) := by decide +kernel
theorem dX5_begins_56 : decode cX5_begins 56 = .ok (.ireturn, 1) := by decide +kernel
theorem dX5_placeOf_0 : decode cX5_placeOf 0 = .ok (.aload_n 0, 1) := by decide +kernel
theorem dX5_placeOf_1 : decode cX5_placeOf 1 = .ok (.getfield 28, 3) := by decide +kernel
theorem dX5_placeOf_4 : decode cX5_placeOf 4 = .ok (.bipush 12, 2) := by decide +kernel
theorem dX5_placeOf_6 : decode cX5_placeOf 6 = .ok (.iload_n 1, 1) := by decide +kernel
theorem dX5_placeOf_7 : decode cX5_placeOf 7 = .ok (.imul, 1) := by decide +kernel
theorem dX5_placeOf_8 : decode cX5_placeOf 8 = .ok (.iload_n 2, 1) := by decide +kernel
theorem dX5_placeOf_9 : decode cX5_placeOf 9 = .ok (.iadd, 1) := by decide +kernel
theorem dX5_placeOf_10 : decode cX5_placeOf 10 = .ok (.iaload, 1) := by decide +kernel
theorem dX5_placeOf_11 : decode cX5_placeOf 11 = .ok (.istore_n 3, 1) := by decide +kernel
theorem dX5_placeOf_12 : decode cX5_placeOf 12 = .ok (.aload_n 0, 1) := by decide +kernel
theorem dX5_placeOf_13 : decode cX5_placeOf 13 = .ok (.getfield 7, 3) := by decide +kernel
theorem dX5_placeOf_16 : decode cX5_placeOf 16 = .ok (.iload_n 1, 1) := by decide +kernel
theorem dX5_placeOf_17 : decode cX5_placeOf 17 = .ok (.iaload, 1) := by decide +kernel
theorem dX5_placeOf_18 : decode cX5_placeOf 18 = .ok (.iconst 2, 1) := by decide +kernel
theorem dX5_placeOf_19 : decode cX5_placeOf 19 = .ok (.if_icmp .eq 12, 3) := by decide +kernel
theorem dX5_placeOf_22 : decode cX5_placeOf 22 = .ok (.aload_n 0, 1) := by decide +kernel
theorem dX5_placeOf_23 : decode cX5_placeOf 23 = .ok (.iload_n 1, 1) := by decide +kernel
theorem dX5_placeOf_24 : decode cX5_placeOf 24 = .ok (.iload_n 3, 1) := by decide +kernel
theorem dX5_placeOf_25 : decode cX5_placeOf 25 = .ok (.iconst 1, 1) := by decide +kernel
theorem dX5_placeOf_26 : decode cX5_placeOf 26 = .ok (.iadd, 1) := by decide +kernel
theorem dX5_placeOf_27 : decode cX5_placeOf 27 = .ok (.invokevirtual 111, 3) := by decide +kernel
theorem dX5_placeOf_30 : decode cX5_placeOf 30 = .ok (.ireturn, 1) := by decide +kernel
theorem dX5_placeOf_31 : decode cX5_placeOf 31 = .ok (.iload_n 3, 1) := by decide +kernel
theorem dX5_placeOf_32 : decode cX5_placeOf 32 = .ok (.aload_n 0, 1) := by decide +kernel
theorem dX5_placeOf_33 : decode cX5_placeOf 33 = .ok (.getfield 19, 3) := by decide +kernel
theorem dX5_placeOf_36 : decode cX5_placeOf 36 = .ok (.iload_n 1, 1) := by decide +kernel
theorem dX5_placeOf_37 : decode cX5_placeOf 37 = .ok (.iaload, 1) := by decide +kernel
theorem dX5_placeOf_38 : decode cX5_placeOf 38 = .ok (.irem, 1) := by decide +kernel
theorem dX5_placeOf_39 : decode cX5_placeOf 39 = .ok (.istore 4, 2) := by decide +kernel
theorem dX5_placeOf_41 : decode cX5_placeOf 41 = .ok (.iload_n 3, 1) := by decide +kernel
theorem dX5_placeOf_42 : decode cX5_placeOf 42 = .ok (.aload_n 0, 1) := by decide +kernel
theorem dX5_placeOf_43 : decode cX5_placeOf 43 = .ok (.getfield 19, 3) := by decide +kernel
theorem dX5_placeOf_46 : decode cX5_placeOf 46 = .ok (.iload_n 1, 1) := by decide +kernel
theorem dX5_placeOf_47 : decode cX5_placeOf 47 = .ok (.iaload, 1) := by decide +kernel
theorem dX5_placeOf_48 : decode cX5_placeOf 48 = .ok (.idiv, 1) := by decide +kernel
theorem dX5_placeOf_49 : decode cX5_placeOf 49 = .ok (.istore 5, 2) := by decide +kernel
theorem dX5_placeOf_51 : decode cX5_placeOf 51 = .ok (.aload_n 0, 1) := by decide +kernel
theorem dX5_placeOf_52 : decode cX5_placeOf 52 = .ok (.getfield 31, 3) := by decide +kernel
theorem dX5_placeOf_55 : decode cX5_placeOf 55 = .ok (.bipush 12, 2) := by decide +kernel
theorem dX5_placeOf_57 : decode cX5_placeOf 57 = .ok (.iload_n 1, 1) := by decide +kernel
theorem dX5_placeOf_58 : decode cX5_placeOf 58 = .ok (.imul, 1) := by decide +kernel
theorem dX5_placeOf_59 : decode cX5_placeOf 59 = .ok (.iload_n 2, 1) := by decide +kernel
theorem dX5_placeOf_60 : decode cX5_placeOf 60 = .ok (.iadd, 1) := by decide +kernel
theorem dX5_placeOf_61 : decode cX5_placeOf 61 = .ok (.iaload, 1) := by decide +kernel
theorem dX5_placeOf_62 : decode cX5_placeOf 62 = .ok (.iload_n 3, 1) := by decide +kernel
theorem dX5_placeOf_63 : decode cX5_placeOf 63 = .ok (.iconst 1, 1) := by decide +kernel
theorem dX5_placeOf_64 : decode cX5_placeOf 64 = .ok (.iadd, 1) := by decide +kernel
theorem dX5_placeOf_65 : decode cX5_placeOf 65 = .ok (.if_icmp .ne 29, 3) := by decide +kernel
theorem dX5_placeOf_68 : decode cX5_placeOf 68 = .ok (.iload_n 2, 1) := by decide +kernel
theorem dX5_placeOf_69 : decode cX5_placeOf 69 = .ok (.aload_n 0, 1) := by decide +kernel
theorem dX5_placeOf_70 : decode cX5_placeOf 70 = .ok (.getfield 16, 3) := by decide +kernel
theorem dX5_placeOf_73 : decode cX5_placeOf 73 = .ok (.iload_n 1, 1) := by decide +kernel
theorem dX5_placeOf_74 : decode cX5_placeOf 74 = .ok (.iaload, 1) := by decide +kernel
theorem dX5_placeOf_75 : decode cX5_placeOf 75 = .ok (.aload_n 0, 1) := by decide +kernel
theorem dX5_placeOf_76 : decode cX5_placeOf 76 = .ok (.getfield 19, 3) := by decide +kernel
theorem dX5_placeOf_79 : decode cX5_placeOf 79 = .ok (.iload_n 1, 1) := by decide +kernel
theorem dX5_placeOf_80 : decode cX5_placeOf 80 = .ok (.iaload, 1) := by decide +kernel
theorem dX5_placeOf_81 : decode cX5_placeOf 81 = .ok (.iconst 1, 1) := by decide +kernel
theorem dX5_placeOf_82 : decode cX5_placeOf 82 = .ok (.isub, 1) := by decide +kernel
theorem dX5_placeOf_83 : decode cX5_placeOf 83 = .ok (.imul, 1) := by decide +kernel
theorem dX5_placeOf_84 : decode cX5_placeOf 84 = .ok (.if_icmp .ge 10, 3) := by decide +kernel
theorem dX5_placeOf_87 : decode cX5_placeOf 87 = .ok (.iload 4, 2) := by decide +kernel
theorem dX5_placeOf_89 : decode cX5_placeOf 89 = .ok (.iconst 2, 1) := by decide +kernel
theorem dX5_placeOf_90 : decode cX5_placeOf 90 = .ok (.irem, 1) := by decide +kernel
theorem dX5_placeOf_91 : decode cX5_placeOf 91 = .ok (.goto 9, 3) := by decide +kernel
theorem dX5_placeOf_94 : decode cX5_placeOf 94 = .ok (.iconst 2, 1) := by decide +kernel
theorem dX5_placeOf_95 : decode cX5_placeOf 95 = .ok (.iload 5, 2) := by decide +kernel
theorem dX5_placeOf_97 : decode cX5_placeOf 97 = .ok (.iconst 2, 1) := by decide +kernel
theorem dX5_placeOf_98 : decode cX5_placeOf 98 = .ok (.irem, 1) := by decide +kernel
theorem dX5_placeOf_99 : decode cX5_placeOf 99 = .ok (.iadd, 1) := by decide +kernel
theorem dX5_placeOf_100 : decode cX5_placeOf 100 = .ok (.ireturn, 1) := by decide +kernel
theorem dX5_crease_0 : decode cX5_crease 0 = .ok (.aload_n 0, 1) := by decide +kernel
theorem dX5_crease_1 : decode cX5_crease 1 = .ok (.iload_n 1, 1) := by decide +kernel
theorem dX5_crease_2 : decode cX5_crease 2 = .ok (.iload_n 2, 1) := by decide +kernel
theorem dX5_crease_3 : decode cX5_crease 3 = .ok (.invokevirtual 101, 3) := by decide +kernel
theorem dX5_crease_6 : decode cX5_crease 6 = .ok (.ifCond .ne 6, 3) := by decide +kernel
theorem dX5_crease_9 : decode cX5_crease 9 = .ok (.bipush (-101), 2) := by decide +kernel
theorem dX5_crease_11 : decode cX5_crease 11 = .ok (.ireturn, 1) := by decide +kernel
theorem dX5_crease_12 : decode cX5_crease 12 = .ok (.bipush 12, 2) := by decide +kernel
theorem dX5_crease_14 : decode cX5_crease 14 = .ok (.iload_n 1, 1) := by decide +kernel
theorem dX5_crease_15 : decode cX5_crease 15 = .ok (.imul, 1) := by decide +kernel
theorem dX5_crease_16 : decode cX5_crease 16 = .ok (.iload_n 2, 1) := by decide +kernel
theorem dX5_crease_17 : decode cX5_crease 17 = .ok (.iadd, 1) := by decide +kernel
theorem dX5_crease_18 : decode cX5_crease 18 = .ok (.istore 4, 2) := by decide +kernel
theorem dX5_crease_20 : decode cX5_crease 20 = .ok (.iload_n 3, 1) := by decide +kernel
theorem dX5_crease_21 : decode cX5_crease 21 = .ok (.ifCond .ne 13, 3) := by decide +kernel
theorem dX5_crease_24 : decode cX5_crease 24 = .ok (.aload_n 0, 1) := by decide +kernel
theorem dX5_crease_25 : decode cX5_crease 25 = .ok (.getfield 28, 3) := by decide +kernel
theorem dX5_crease_28 : decode cX5_crease 28 = .ok (.iload 4, 2) := by decide +kernel
theorem dX5_crease_30 : decode cX5_crease 30 = .ok (.iaload, 1) := by decide +kernel
theorem dX5_crease_31 : decode cX5_crease 31 = .ok (.goto 49, 3) := by decide +kernel
theorem dX5_crease_34 : decode cX5_crease 34 = .ok (.iload_n 3, 1) := by decide +kernel
theorem dX5_crease_35 : decode cX5_crease 35 = .ok (.iconst 1, 1) := by decide +kernel
theorem dX5_crease_36 : decode cX5_crease 36 = .ok (.if_icmp .ne 13, 3) := by decide +kernel
theorem dX5_crease_39 : decode cX5_crease 39 = .ok (.aload_n 0, 1) := by decide +kernel
theorem dX5_crease_40 : decode cX5_crease 40 = .ok (.getfield 31, 3) := by decide +kernel
theorem dX5_crease_43 : decode cX5_crease 43 = .ok (.iload 4, 2) := by decide +kernel
theorem dX5_crease_45 : decode cX5_crease 45 = .ok (.iaload, 1) := by decide +kernel
theorem dX5_crease_46 : decode cX5_crease 46 = .ok (.goto 34, 3) := by decide +kernel
theorem dX5_crease_49 : decode cX5_crease 49 = .ok (.iload_n 3, 1) := by decide +kernel
theorem dX5_crease_50 : decode cX5_crease 50 = .ok (.iconst 2, 1) := by decide +kernel
theorem dX5_crease_51 : decode cX5_crease 51 = .ok (.if_icmp .ne 13, 3) := by decide +kernel
theorem dX5_crease_54 : decode cX5_crease 54 = .ok (.aload_n 0, 1) := by decide +kernel
theorem dX5_crease_55 : decode cX5_crease 55 = .ok (.getfield 34, 3) := by decide +kernel
theorem dX5_crease_58 : decode cX5_crease 58 = .ok (.iload 4, 2) := by decide +kernel
theorem dX5_crease_60 : decode cX5_crease 60 = .ok (.iaload, 1) := by decide +kernel
theorem dX5_crease_61 : decode cX5_crease 61 = .ok (.goto 19, 3) := by decide +kernel
theorem dX5_crease_64 : decode cX5_crease 64 = .ok (.iload_n 3, 1) := by decide +kernel
theorem dX5_crease_65 : decode cX5_crease 65 = .ok (.iconst 3, 1) := by decide +kernel
theorem dX5_crease_66 : decode cX5_crease 66 = .ok (.if_icmp .ne 12, 3) := by decide +kernel
theorem dX5_crease_69 : decode cX5_crease 69 = .ok (.aload_n 0, 1) := by decide +kernel
theorem dX5_crease_70 : decode cX5_crease 70 = .ok (.iload_n 1, 1) := by decide +kernel
theorem dX5_crease_71 : decode cX5_crease 71 = .ok (.iload_n 2, 1) := by decide +kernel
theorem dX5_crease_72 : decode cX5_crease 72 = .ok (.invokevirtual 114, 3) := by decide +kernel
theorem dX5_crease_75 : decode cX5_crease 75 = .ok (.goto 5, 3) := by decide +kernel
theorem dX5_crease_78 : decode cX5_crease 78 = .ok (.bipush (-102), 2) := by decide +kernel
theorem dX5_crease_80 : decode cX5_crease 80 = .ok (.ireturn, 1) := by decide +kernel
theorem dX5_isUp_0 : decode cX5_isUp 0 = .ok (.aload_n 0, 1) := by decide +kernel
theorem dX5_isUp_1 : decode cX5_isUp 1 = .ok (.getfield 7, 3) := by decide +kernel
theorem dX5_isUp_4 : decode cX5_isUp 4 = .ok (.iload_n 1, 1) := by decide +kernel
theorem dX5_isUp_5 : decode cX5_isUp 5 = .ok (.iaload, 1) := by decide +kernel
theorem dX5_isUp_6 : decode cX5_isUp 6 = .ok (.iconst 2, 1) := by decide +kernel
theorem dX5_isUp_7 : decode cX5_isUp 7 = .ok (.if_icmp .ne 33, 3) := by decide +kernel
theorem dX5_isUp_10 : decode cX5_isUp 10 = .ok (.iload_n 2, 1) := by decide +kernel
theorem dX5_isUp_11 : decode cX5_isUp 11 = .ok (.aload_n 0, 1) := by decide +kernel
theorem dX5_isUp_12 : decode cX5_isUp 12 = .ok (.getfield 19, 3) := by decide +kernel
theorem dX5_isUp_15 : decode cX5_isUp 15 = .ok (.iload_n 1, 1) := by decide +kernel
theorem dX5_isUp_16 : decode cX5_isUp 16 = .ok (.iaload, 1) := by decide +kernel
theorem dX5_isUp_17 : decode cX5_isUp 17 = .ok (.idiv, 1) := by decide +kernel
theorem dX5_isUp_18 : decode cX5_isUp 18 = .ok (.iload_n 2, 1) := by decide +kernel
theorem dX5_isUp_19 : decode cX5_isUp 19 = .ok (.aload_n 0, 1) := by decide +kernel
theorem dX5_isUp_20 : decode cX5_isUp 20 = .ok (.getfield 19, 3) := by decide +kernel
theorem dX5_isUp_23 : decode cX5_isUp 23 = .ok (.iload_n 1, 1) := by decide +kernel
theorem dX5_isUp_24 : decode cX5_isUp 24 = .ok (.iaload, 1) := by decide +kernel
theorem dX5_isUp_25 : decode cX5_isUp 25 = .ok (.irem, 1) := by decide +kernel
theorem dX5_isUp_26 : decode cX5_isUp 26 = .ok (.iadd, 1) := by decide +kernel
theorem dX5_isUp_27 : decode cX5_isUp 27 = .ok (.iconst 2, 1) := by decide +kernel
theorem dX5_isUp_28 : decode cX5_isUp 28 = .ok (.irem, 1) := by decide +kernel
theorem dX5_isUp_29 : decode cX5_isUp 29 = .ok (.ifCond .ne 7, 3) := by decide +kernel
theorem dX5_isUp_32 : decode cX5_isUp 32 = .ok (.iconst 1, 1) := by decide +kernel
theorem dX5_isUp_33 : decode cX5_isUp 33 = .ok (.goto 18, 3) := by decide +kernel
theorem dX5_isUp_36 : decode cX5_isUp 36 = .ok (.iconst 0, 1) := by decide +kernel
theorem dX5_isUp_37 : decode cX5_isUp 37 = .ok (.goto 14, 3) := by decide +kernel
theorem dX5_isUp_40 : decode cX5_isUp 40 = .ok (.iload_n 2, 1) := by decide +kernel
theorem dX5_isUp_41 : decode cX5_isUp 41 = .ok (.iconst 2, 1) := by decide +kernel
theorem dX5_isUp_42 : decode cX5_isUp 42 = .ok (.irem, 1) := by decide +kernel
theorem dX5_isUp_43 : decode cX5_isUp 43 = .ok (.ifCond .ne 7, 3) := by decide +kernel
theorem dX5_isUp_46 : decode cX5_isUp 46 = .ok (.iconst 1, 1) := by decide +kernel
theorem dX5_isUp_47 : decode cX5_isUp 47 = .ok (.goto 4, 3) := by decide +kernel
theorem dX5_isUp_50 : decode cX5_isUp 50 = .ok (.iconst 0, 1) := by decide +kernel
theorem dX5_isUp_51 : decode cX5_isUp 51 = .ok (.ireturn, 1) := by decide +kernel
theorem dX5_begin_0 : decode cX5_begin 0 = .ok (.aload_n 0, 1) := by decide +kernel
theorem dX5_begin_1 : decode cX5_begin 1 = .ok (.iload_n 1, 1) := by decide +kernel
theorem dX5_begin_2 : decode cX5_begin 2 = .ok (.putfield 117, 3) := by decide +kernel
theorem dX5_begin_5 : decode cX5_begin 5 = .ok (.aload_n 0, 1) := by decide +kernel
theorem dX5_begin_6 : decode cX5_begin 6 = .ok (.iconst 0, 1) := by decide +kernel
theorem dX5_begin_7 : decode cX5_begin 7 = .ok (.putfield 120, 3) := by decide +kernel
theorem dX5_begin_10 : decode cX5_begin 10 = .ok (.aload_n 0, 1) := by decide +kernel
theorem dX5_begin_11 : decode cX5_begin 11 = .ok (.iconst 0, 1) := by decide +kernel
theorem dX5_begin_12 : decode cX5_begin 12 = .ok (.putfield 123, 3) := by decide +kernel
theorem dX5_begin_15 : decode cX5_begin 15 = .ok (.iconst 0, 1) := by decide +kernel
theorem dX5_begin_16 : decode cX5_begin 16 = .ok (.istore_n 2, 1) := by decide +kernel
theorem dX5_begin_17 : decode cX5_begin 17 = .ok (.iload_n 2, 1) := by decide +kernel
theorem dX5_begin_18 : decode cX5_begin 18 = .ok (.bipush 9, 2) := by decide +kernel
theorem dX5_begin_20 : decode cX5_begin 20 = .ok (.if_icmp .ge 16, 3) := by decide +kernel
theorem dX5_begin_23 : decode cX5_begin 23 = .ok (.aload_n 0, 1) := by decide +kernel
theorem dX5_begin_24 : decode cX5_begin 24 = .ok (.getfield 46, 3) := by decide +kernel
theorem dX5_begin_27 : decode cX5_begin 27 = .ok (.iload_n 2, 1) := by decide +kernel
theorem dX5_begin_28 : decode cX5_begin 28 = .ok (.iconst (-1), 1) := by decide +kernel
theorem dX5_begin_29 : decode cX5_begin 29 = .ok (.iastore, 1) := by decide +kernel
theorem dX5_begin_30 : decode cX5_begin 30 = .ok (.iinc 2 1, 3) := by decide +kernel
theorem dX5_begin_33 : decode cX5_begin 33 = .ok (.goto (-16), 3) := by decide +kernel
theorem dX5_begin_36 : decode cX5_begin 36 = .ok (.iconst 0, 1) := by decide +kernel
theorem dX5_begin_37 : decode cX5_begin 37 = .ok (.istore_n 2, 1) := by decide +kernel
theorem dX5_begin_38 : decode cX5_begin 38 = .ok (.iload_n 2, 1) := by decide +kernel
theorem dX5_begin_39 : decode cX5_begin 39 = .ok (.aload_n 0, 1) := by decide +kernel
theorem dX5_begin_40 : decode cX5_begin 40 = .ok (.getfield 22, 3) := by decide +kernel
theorem dX5_begin_43 : decode cX5_begin 43 = .ok (.iload_n 1, 1) := by decide +kernel
theorem dX5_begin_44 : decode cX5_begin 44 = .ok (.iaload, 1) := by decide +kernel
theorem dX5_begin_45 : decode cX5_begin 45 = .ok (.if_icmp .ge 21, 3) := by decide +kernel
theorem dX5_begin_48 : decode cX5_begin 48 = .ok (.aload_n 0, 1) := by decide +kernel
theorem dX5_begin_49 : decode cX5_begin 49 = .ok (.getfield 49, 3) := by decide +kernel
theorem dX5_begin_52 : decode cX5_begin 52 = .ok (.iload_n 2, 1) := by decide +kernel
theorem dX5_begin_53 : decode cX5_begin 53 = .ok (.aload_n 0, 1) := by decide +kernel
theorem dX5_begin_54 : decode cX5_begin 54 = .ok (.iload_n 1, 1) := by decide +kernel
theorem dX5_begin_55 : decode cX5_begin 55 = .ok (.iload_n 2, 1) := by decide +kernel
theorem dX5_begin_56 : decode cX5_begin 56 = .ok (.invokevirtual 114, 3) := by decide +kernel
theorem dX5_begin_59 : decode cX5_begin 59 = .ok (.iastore, 1) := by decide +kernel
theorem dX5_begin_60 : decode cX5_begin 60 = .ok (.iinc 2 1, 3) := by decide +kernel
theorem dX5_begin_63 : decode cX5_begin 63 = .ok (.goto (-25), 3) := by decide +kernel
theorem dX5_begin_66 : decode cX5_begin 66 = .ok (.return_, 1) := by decide +kernel
theorem dX5_isWithin_0 : decode cX5_isWithin 0 = .ok (.aload_n 0, 1) := by decide +kernel
theorem dX5_isWithin_1 : decode cX5_isWithin 1 = .ok (.aload_n 0, 1) := by decide +kernel
theorem dX5_isWithin_2 : decode cX5_isWithin 2 = .ok (.getfield 117, 3) := by decide +kernel
theorem dX5_isWithin_5 : decode cX5_isWithin 5 = .ok (.iload_n 1, 1) := by decide +kernel
theorem dX5_isWithin_6 : decode cX5_isWithin 6 = .ok (.invokevirtual 111, 3) := by decide +kernel
theorem dX5_isWithin_9 : decode cX5_isWithin 9 = .ok (.istore_n 3, 1) := by decide +kernel
theorem dX5_isWithin_10 : decode cX5_isWithin 10 = .ok (.aload_n 0, 1) := by decide +kernel
theorem dX5_isWithin_11 : decode cX5_isWithin 11 = .ok (.aload_n 0, 1) := by decide +kernel
theorem dX5_isWithin_12 : decode cX5_isWithin 12 = .ok (.getfield 117, 3) := by decide +kernel
theorem dX5_isWithin_15 : decode cX5_isWithin 15 = .ok (.iload_n 1, 1) := by decide +kernel
theorem dX5_isWithin_16 : decode cX5_isWithin 16 = .ok (.iconst 1, 1) := by decide +kernel
theorem dX5_isWithin_17 : decode cX5_isWithin 17 = .ok (.iadd, 1) := by decide +kernel
theorem dX5_isWithin_18 : decode cX5_isWithin 18 = .ok (.invokevirtual 111, 3) := by decide +kernel
theorem dX5_isWithin_21 : decode cX5_isWithin 21 = .ok (.istore 4, 2) := by decide +kernel
theorem dX5_isWithin_23 : decode cX5_isWithin 23 = .ok (.aload_n 0, 1) := by decide +kernel
theorem dX5_isWithin_24 : decode cX5_isWithin 24 = .ok (.getfield 7, 3) := by decide +kernel
theorem dX5_isWithin_27 : decode cX5_isWithin 27 = .ok (.aload_n 0, 1) := by decide +kernel
theorem dX5_isWithin_28 : decode cX5_isWithin 28 = .ok (.getfield 117, 3) := by decide +kernel
theorem dX5_isWithin_31 : decode cX5_isWithin 31 = .ok (.iaload, 1) := by decide +kernel
theorem dX5_isWithin_32 : decode cX5_isWithin 32 = .ok (.iconst 2, 1) := by decide +kernel
theorem dX5_isWithin_33 : decode cX5_isWithin 33 = .ok (.if_icmp .eq 27, 3) := by decide +kernel
theorem dX5_isWithin_36 : decode cX5_isWithin 36 = .ok (.iload_n 2, 1) := by decide +kernel
theorem dX5_isWithin_37 : decode cX5_isWithin 37 = .ok (.iload_n 3, 1) := by decide +kernel
theorem dX5_isWithin_38 : decode cX5_isWithin 38 = .ok (.iload 4, 2) := by decide +kernel
theorem dX5_isWithin_40 : decode cX5_isWithin 40 = .ok (.invokestatic 127, 3) := by decide +kernel
theorem dX5_isWithin_43 : decode cX5_isWithin 43 = .ok (.if_icmp .le 17, 3) := by decide +kernel
theorem dX5_isWithin_46 : decode cX5_isWithin 46 = .ok (.iload_n 2, 1) := by decide +kernel
theorem dX5_isWithin_47 : decode cX5_isWithin 47 = .ok (.iload_n 3, 1) := by decide +kernel
theorem dX5_isWithin_48 : decode cX5_isWithin 48 = .ok (.iload 4, 2) := by decide +kernel
theorem dX5_isWithin_50 : decode cX5_isWithin 50 = .ok (.invokestatic 130, 3) := by decide +kernel
theorem dX5_isWithin_53 : decode cX5_isWithin 53 = .ok (.if_icmp .ge 7, 3) := by decide +kernel
theorem dX5_isWithin_56 : decode cX5_isWithin 56 = .ok (.iconst 1, 1) := by decide +kernel
theorem dX5_isWithin_57 : decode cX5_isWithin 57 = .ok (.goto 4, 3) := by decide +kernel
theorem dX5_isWithin_60 : decode cX5_isWithin 60 = .ok (.iconst 0, 1) := by decide +kernel
theorem dX5_isWithin_61 : decode cX5_isWithin 61 = .ok (.ireturn, 1) := by decide +kernel
theorem dX5_isOneSide_0 : decode cX5_isOneSide 0 = .ok (.aload_n 0, 1) := by decide +kernel
theorem dX5_isOneSide_1 : decode cX5_isOneSide 1 = .ok (.getfield 49, 3) := by decide +kernel
theorem dX5_isOneSide_4 : decode cX5_isOneSide 4 = .ok (.iload_n 1, 1) := by decide +kernel
theorem dX5_isOneSide_5 : decode cX5_isOneSide 5 = .ok (.iaload, 1) := by decide +kernel
theorem dX5_isOneSide_6 : decode cX5_isOneSide 6 = .ok (.aload_n 0, 1) := by decide +kernel
theorem dX5_isOneSide_7 : decode cX5_isOneSide 7 = .ok (.getfield 49, 3) := by decide +kernel
theorem dX5_isOneSide_10 : decode cX5_isOneSide 10 = .ok (.iload_n 2, 1) := by decide +kernel
theorem dX5_isOneSide_11 : decode cX5_isOneSide 11 = .ok (.iaload, 1) := by decide +kernel
theorem dX5_isOneSide_12 : decode cX5_isOneSide 12 = .ok (.if_icmp .ne 55, 3) := by decide +kernel
theorem dX5_isOneSide_15 : decode cX5_isOneSide 15 = .ok (.aload_n 0, 1) := by decide +kernel
theorem dX5_isOneSide_16 : decode cX5_isOneSide 16 = .ok (.getfield 7, 3) := by decide +kernel
theorem dX5_isOneSide_19 : decode cX5_isOneSide 19 = .ok (.aload_n 0, 1) := by decide +kernel
theorem dX5_isOneSide_20 : decode cX5_isOneSide 20 = .ok (.getfield 117, 3) := by decide +kernel
theorem dX5_isOneSide_23 : decode cX5_isOneSide 23 = .ok (.iaload, 1) := by decide +kernel
theorem dX5_isOneSide_24 : decode cX5_isOneSide 24 = .ok (.iconst 2, 1) := by decide +kernel
theorem dX5_isOneSide_25 : decode cX5_isOneSide 25 = .ok (.if_icmp .eq 38, 3) := by decide +kernel
theorem dX5_isOneSide_28 : decode cX5_isOneSide 28 = .ok (.aload_n 0, 1) := by decide +kernel
theorem dX5_isOneSide_29 : decode cX5_isOneSide 29 = .ok (.getfield 28, 3) := by decide +kernel
theorem dX5_isOneSide_32 : decode cX5_isOneSide 32 = .ok (.bipush 12, 2) := by decide +kernel
theorem dX5_isOneSide_34 : decode cX5_isOneSide 34 = .ok (.aload_n 0, 1) := by decide +kernel
theorem dX5_isOneSide_35 : decode cX5_isOneSide 35 = .ok (.getfield 117, 3) := by decide +kernel
theorem dX5_isOneSide_38 : decode cX5_isOneSide 38 = .ok (.imul, 1) := by decide +kernel
theorem dX5_isOneSide_39 : decode cX5_isOneSide 39 = .ok (.iload_n 1, 1) := by decide +kernel
theorem dX5_isOneSide_40 : decode cX5_isOneSide 40 = .ok (.iadd, 1) := by decide +kernel
theorem dX5_isOneSide_41 : decode cX5_isOneSide 41 = .ok (.iaload, 1) := by decide +kernel
theorem dX5_isOneSide_42 : decode cX5_isOneSide 42 = .ok (.iconst 2, 1) := by decide +kernel
theorem dX5_isOneSide_43 : decode cX5_isOneSide 43 = .ok (.irem, 1) := by decide +kernel
theorem dX5_isOneSide_44 : decode cX5_isOneSide 44 = .ok (.aload_n 0, 1) := by decide +kernel
theorem dX5_isOneSide_45 : decode cX5_isOneSide 45 = .ok (.getfield 28, 3) := by decide +kernel
theorem dX5_isOneSide_48 : decode cX5_isOneSide 48 = .ok (.bipush 12, 2) := by decide +kernel
theorem dX5_isOneSide_50 : decode cX5_isOneSide 50 = .ok (.aload_n 0, 1) := by decide +kernel
theorem dX5_isOneSide_51 : decode cX5_isOneSide 51 = .ok (.getfield 117, 3) := by decide +kernel
theorem dX5_isOneSide_54 : decode cX5_isOneSide 54 = .ok (.imul, 1) := by decide +kernel
theorem dX5_isOneSide_55 : decode cX5_isOneSide 55 = .ok (.iload_n 2, 1) := by decide +kernel
theorem dX5_isOneSide_56 : decode cX5_isOneSide 56 = .ok (.iadd, 1) := by decide +kernel
theorem dX5_isOneSide_57 : decode cX5_isOneSide 57 = .ok (.iaload, 1) := by decide +kernel
theorem dX5_isOneSide_58 : decode cX5_isOneSide 58 = .ok (.iconst 2, 1) := by decide +kernel
theorem dX5_isOneSide_59 : decode cX5_isOneSide 59 = .ok (.irem, 1) := by decide +kernel
theorem dX5_isOneSide_60 : decode cX5_isOneSide 60 = .ok (.if_icmp .ne 7, 3) := by decide +kernel
theorem dX5_isOneSide_63 : decode cX5_isOneSide 63 = .ok (.iconst 1, 1) := by decide +kernel
theorem dX5_isOneSide_64 : decode cX5_isOneSide 64 = .ok (.goto 4, 3) := by decide +kernel
theorem dX5_isOneSide_67 : decode cX5_isOneSide 67 = .ok (.iconst 0, 1) := by decide +kernel
theorem dX5_isOneSide_68 : decode cX5_isOneSide 68 = .ok (.ireturn, 1) := by decide +kernel
theorem dX5_isFour_0 : decode cX5_isFour 0 = .ok (.aload_n 0, 1) := by decide +kernel
theorem dX5_isFour_1 : decode cX5_isFour 1 = .ok (.getfield 28, 3) := by decide +kernel
theorem dX5_isFour_4 : decode cX5_isFour 4 = .ok (.bipush 12, 2) := by decide +kernel
theorem dX5_isFour_6 : decode cX5_isFour 6 = .ok (.aload_n 0, 1) := by decide +kernel
theorem dX5_isFour_7 : decode cX5_isFour 7 = .ok (.getfield 117, 3) := by decide +kernel
theorem dX5_isFour_10 : decode cX5_isFour 10 = .ok (.imul, 1) := by decide +kernel
theorem dX5_isFour_11 : decode cX5_isFour 11 = .ok (.iload_n 1, 1) := by decide +kernel
theorem dX5_isFour_12 : decode cX5_isFour 12 = .ok (.iadd, 1) := by decide +kernel
theorem dX5_isFour_13 : decode cX5_isFour 13 = .ok (.iaload, 1) := by decide +kernel
theorem dX5_isFour_14 : decode cX5_isFour 14 = .ok (.istore_n 3, 1) := by decide +kernel
theorem dX5_isFour_15 : decode cX5_isFour 15 = .ok (.aload_n 0, 1) := by decide +kernel
theorem dX5_isFour_16 : decode cX5_isFour 16 = .ok (.getfield 31, 3) := by decide +kernel
theorem dX5_isFour_19 : decode cX5_isFour 19 = .ok (.bipush 12, 2) := by decide +kernel
theorem dX5_isFour_21 : decode cX5_isFour 21 = .ok (.aload_n 0, 1) := by decide +kernel
theorem dX5_isFour_22 : decode cX5_isFour 22 = .ok (.getfield 117, 3) := by decide +kernel
theorem dX5_isFour_25 : decode cX5_isFour 25 = .ok (.imul, 1) := by decide +kernel
theorem dX5_isFour_26 : decode cX5_isFour 26 = .ok (.iload_n 1, 1) := by decide +kernel
theorem dX5_isFour_27 : decode cX5_isFour 27 = .ok (.iadd, 1) := by decide +kernel
theorem dX5_isFour_28 : decode cX5_isFour 28 = .ok (.iaload, 1) := by decide +kernel
theorem dX5_isFour_29 : decode cX5_isFour 29 = .ok (.istore 4, 2) := by decide +kernel
theorem dX5_isFour_31 : decode cX5_isFour 31 = .ok (.aload_n 0, 1) := by decide +kernel
theorem dX5_isFour_32 : decode cX5_isFour 32 = .ok (.getfield 28, 3) := by decide +kernel
theorem dX5_isFour_35 : decode cX5_isFour 35 = .ok (.bipush 12, 2) := by decide +kernel
theorem dX5_isFour_37 : decode cX5_isFour 37 = .ok (.aload_n 0, 1) := by decide +kernel
theorem dX5_isFour_38 : decode cX5_isFour 38 = .ok (.getfield 117, 3) := by decide +kernel
theorem dX5_isFour_41 : decode cX5_isFour 41 = .ok (.imul, 1) := by decide +kernel
theorem dX5_isFour_42 : decode cX5_isFour 42 = .ok (.iload_n 2, 1) := by decide +kernel
theorem dX5_isFour_43 : decode cX5_isFour 43 = .ok (.iadd, 1) := by decide +kernel
theorem dX5_isFour_44 : decode cX5_isFour 44 = .ok (.iaload, 1) := by decide +kernel
theorem dX5_isFour_45 : decode cX5_isFour 45 = .ok (.istore 5, 2) := by decide +kernel
theorem dX5_isFour_47 : decode cX5_isFour 47 = .ok (.aload_n 0, 1) := by decide +kernel
theorem dX5_isFour_48 : decode cX5_isFour 48 = .ok (.getfield 31, 3) := by decide +kernel
theorem dX5_isFour_51 : decode cX5_isFour 51 = .ok (.bipush 12, 2) := by decide +kernel
theorem dX5_isFour_53 : decode cX5_isFour 53 = .ok (.aload_n 0, 1) := by decide +kernel
theorem dX5_isFour_54 : decode cX5_isFour 54 = .ok (.getfield 117, 3) := by decide +kernel
theorem dX5_isFour_57 : decode cX5_isFour 57 = .ok (.imul, 1) := by decide +kernel
theorem dX5_isFour_58 : decode cX5_isFour 58 = .ok (.iload_n 2, 1) := by decide +kernel
theorem dX5_isFour_59 : decode cX5_isFour 59 = .ok (.iadd, 1) := by decide +kernel
theorem dX5_isFour_60 : decode cX5_isFour 60 = .ok (.iaload, 1) := by decide +kernel
theorem dX5_isFour_61 : decode cX5_isFour 61 = .ok (.istore 6, 2) := by decide +kernel
theorem dX5_isFour_63 : decode cX5_isFour 63 = .ok (.iload_n 3, 1) := by decide +kernel
theorem dX5_isFour_64 : decode cX5_isFour 64 = .ok (.iload 5, 2) := by decide +kernel
theorem dX5_isFour_66 : decode cX5_isFour 66 = .ok (.if_icmp .eq 27, 3) := by decide +kernel
theorem dX5_isFour_69 : decode cX5_isFour 69 = .ok (.iload_n 3, 1) := by decide +kernel
theorem dX5_isFour_70 : decode cX5_isFour 70 = .ok (.iload 6, 2) := by decide +kernel
theorem dX5_isFour_72 : decode cX5_isFour 72 = .ok (.if_icmp .eq 21, 3) := by decide +kernel
theorem dX5_isFour_75 : decode cX5_isFour 75 = .ok (.iload 4, 2) := by decide +kernel
theorem dX5_isFour_77 : decode cX5_isFour 77 = .ok (.iload 5, 2) := by decide +kernel
theorem dX5_isFour_79 : decode cX5_isFour 79 = .ok (.if_icmp .eq 14, 3) := by decide +kernel
theorem dX5_isFour_82 : decode cX5_isFour 82 = .ok (.iload 4, 2) := by decide +kernel
theorem dX5_isFour_84 : decode cX5_isFour 84 = .ok (.iload 6, 2) := by decide +kernel
theorem dX5_isFour_86 : decode cX5_isFour 86 = .ok (.if_icmp .eq 7, 3) := by decide +kernel
theorem dX5_isFour_89 : decode cX5_isFour 89 = .ok (.iconst 1, 1) := by decide +kernel
theorem dX5_isFour_90 : decode cX5_isFour 90 = .ok (.goto 4, 3) := by decide +kernel
theorem dX5_isFour_93 : decode cX5_isFour 93 = .ok (.iconst 0, 1) := by decide +kernel
theorem dX5_isFour_94 : decode cX5_isFour 94 = .ok (.ireturn, 1) := by decide +kernel
theorem dX5_markIn_0 : decode cX5_markIn 0 = .ok (.aload_n 0, 1) := by decide +kernel
theorem dX5_markIn_1 : decode cX5_markIn 1 = .ok (.getfield 28, 3) := by decide +kernel
theorem dX5_markIn_4 : decode cX5_markIn 4 = .ok (.bipush 12, 2) := by decide +kernel
theorem dX5_markIn_6 : decode cX5_markIn 6 = .ok (.aload_n 0, 1) := by decide +kernel
theorem dX5_markIn_7 : decode cX5_markIn 7 = .ok (.getfield 117, 3) := by decide +kernel
theorem dX5_markIn_10 : decode cX5_markIn 10 = .ok (.imul, 1) := by decide +kernel
theorem dX5_markIn_11 : decode cX5_markIn 11 = .ok (.iload_n 1, 1) := by decide +kernel
theorem dX5_markIn_12 : decode cX5_markIn 12 = .ok (.iadd, 1) := by decide +kernel
theorem dX5_markIn_13 : decode cX5_markIn 13 = .ok (.iaload, 1) := by decide +kernel
theorem dX5_markIn_14 : decode cX5_markIn 14 = .ok (.istore_n 2, 1) := by decide +kernel
theorem dX5_markIn_15 : decode cX5_markIn 15 = .ok (.aload_n 0, 1) := by decide +kernel
theorem dX5_markIn_16 : decode cX5_markIn 16 = .ok (.getfield 46, 3) := by decide +kernel
theorem dX5_markIn_19 : decode cX5_markIn 19 = .ok (.aload_n 0, 1) := by decide +kernel
theorem dX5_markIn_20 : decode cX5_markIn 20 = .ok (.getfield 31, 3) := by decide +kernel
theorem dX5_markIn_23 : decode cX5_markIn 23 = .ok (.bipush 12, 2) := by decide +kernel
theorem dX5_markIn_25 : decode cX5_markIn 25 = .ok (.aload_n 0, 1) := by decide +kernel
theorem dX5_markIn_26 : decode cX5_markIn 26 = .ok (.getfield 117, 3) := by decide +kernel
theorem dX5_markIn_29 : decode cX5_markIn 29 = .ok (.imul, 1) := by decide +kernel
theorem dX5_markIn_30 : decode cX5_markIn 30 = .ok (.iload_n 1, 1) := by decide +kernel
theorem dX5_markIn_31 : decode cX5_markIn 31 = .ok (.iadd, 1) := by decide +kernel
theorem dX5_markIn_32 : decode cX5_markIn 32 = .ok (.iaload, 1) := by decide +kernel
theorem dX5_markIn_33 : decode cX5_markIn 33 = .ok (.iaload, 1) := by decide +kernel
theorem dX5_markIn_34 : decode cX5_markIn 34 = .ok (.aload_n 0, 1) := by decide +kernel
theorem dX5_markIn_35 : decode cX5_markIn 35 = .ok (.getfield 46, 3) := by decide +kernel
theorem dX5_markIn_38 : decode cX5_markIn 38 = .ok (.iload_n 2, 1) := by decide +kernel
theorem dX5_markIn_39 : decode cX5_markIn 39 = .ok (.iaload, 1) := by decide +kernel
theorem dX5_markIn_40 : decode cX5_markIn 40 = .ok (.if_icmp .le 7, 3) := by decide +kernel
theorem dX5_markIn_43 : decode cX5_markIn 43 = .ok (.iconst 1, 1) := by decide +kernel
theorem dX5_markIn_44 : decode cX5_markIn 44 = .ok (.goto 4, 3) := by decide +kernel
theorem dX5_markIn_47 : decode cX5_markIn 47 = .ok (.iconst 0, 1) := by decide +kernel
theorem dX5_markIn_48 : decode cX5_markIn 48 = .ok (.istore_n 3, 1) := by decide +kernel
theorem dX5_markIn_49 : decode cX5_markIn 49 = .ok (.iload_n 3, 1) := by decide +kernel
theorem dX5_markIn_50 : decode cX5_markIn 50 = .ok (.aload_n 0, 1) := by decide +kernel
theorem dX5_markIn_51 : decode cX5_markIn 51 = .ok (.aload_n 0, 1) := by decide +kernel
theorem dX5_markIn_52 : decode cX5_markIn 52 = .ok (.getfield 117, 3) := by decide +kernel
theorem dX5_markIn_55 : decode cX5_markIn 55 = .ok (.iload_n 2, 1) := by decide +kernel
theorem dX5_markIn_56 : decode cX5_markIn 56 = .ok (.invokevirtual 133, 3) := by decide +kernel
theorem dX5_markIn_59 : decode cX5_markIn 59 = .ok (.if_icmp .ne 7, 3) := by decide +kernel
theorem dX5_markIn_62 : decode cX5_markIn 62 = .ok (.iconst 2, 1) := by decide +kernel
theorem dX5_markIn_63 : decode cX5_markIn 63 = .ok (.goto 4, 3) := by decide +kernel
theorem dX5_markIn_66 : decode cX5_markIn 66 = .ok (.iconst 1, 1) := by decide +kernel
theorem dX5_markIn_67 : decode cX5_markIn 67 = .ok (.ireturn, 1) := by decide +kernel
theorem dX5_isFine_0 : decode cX5_isFine 0 = .ok (.iconst 0, 1) := by decide +kernel
theorem dX5_isFine_1 : decode cX5_isFine 1 = .ok (.istore_n 2, 1) := by decide +kernel
theorem dX5_isFine_2 : decode cX5_isFine 2 = .ok (.iload_n 2, 1) := by decide +kernel
theorem dX5_isFine_3 : decode cX5_isFine 3 = .ok (.aload_n 0, 1) := by decide +kernel
theorem dX5_isFine_4 : decode cX5_isFine 4 = .ok (.getfield 22, 3) := by decide +kernel
theorem dX5_isFine_7 : decode cX5_isFine 7 = .ok (.aload_n 0, 1) := by decide +kernel
theorem dX5_isFine_8 : decode cX5_isFine 8 = .ok (.getfield 117, 3) := by decide +kernel
theorem dX5_isFine_11 : decode cX5_isFine 11 = .ok (.iaload, 1) := by decide +kernel
theorem dX5_isFine_12 : decode cX5_isFine 12 = .ok (.if_icmp .ge 132, 3) := by decide +kernel
theorem dX5_isFine_15 : decode cX5_isFine 15 = .ok (.aload_n 0, 1) := by decide +kernel
theorem dX5_isFine_16 : decode cX5_isFine 16 = .ok (.getfield 28, 3) := by decide +kernel
theorem dX5_isFine_19 : decode cX5_isFine 19 = .ok (.bipush 12, 2) := by decide +kernel
theorem dX5_isFine_21 : decode cX5_isFine 21 = .ok (.aload_n 0, 1) := by decide +kernel
theorem dX5_isFine_22 : decode cX5_isFine 22 = .ok (.getfield 117, 3) := by decide +kernel
theorem dX5_isFine_25 : decode cX5_isFine 25 = .ok (.imul, 1) := by decide +kernel
theorem dX5_isFine_26 : decode cX5_isFine 26 = .ok (.iload_n 2, 1) := by decide +kernel
theorem dX5_isFine_27 : decode cX5_isFine 27 = .ok (.iadd, 1) := by decide +kernel
theorem dX5_isFine_28 : decode cX5_isFine 28 = .ok (.iaload, 1) := by decide +kernel
theorem dX5_isFine_29 : decode cX5_isFine 29 = .ok (.istore_n 3, 1) := by decide +kernel
theorem dX5_isFine_30 : decode cX5_isFine 30 = .ok (.aload_n 0, 1) := by decide +kernel
theorem dX5_isFine_31 : decode cX5_isFine 31 = .ok (.getfield 31, 3) := by decide +kernel
theorem dX5_isFine_34 : decode cX5_isFine 34 = .ok (.bipush 12, 2) := by decide +kernel
theorem dX5_isFine_36 : decode cX5_isFine 36 = .ok (.aload_n 0, 1) := by decide +kernel
theorem dX5_isFine_37 : decode cX5_isFine 37 = .ok (.getfield 117, 3) := by decide +kernel
theorem dX5_isFine_40 : decode cX5_isFine 40 = .ok (.imul, 1) := by decide +kernel
theorem dX5_isFine_41 : decode cX5_isFine 41 = .ok (.iload_n 2, 1) := by decide +kernel
theorem dX5_isFine_42 : decode cX5_isFine 42 = .ok (.iadd, 1) := by decide +kernel
theorem dX5_isFine_43 : decode cX5_isFine 43 = .ok (.iaload, 1) := by decide +kernel
theorem dX5_isFine_44 : decode cX5_isFine 44 = .ok (.istore 4, 2) := by decide +kernel
theorem dX5_isFine_46 : decode cX5_isFine 46 = .ok (.aload_n 0, 1) := by decide +kernel
theorem dX5_isFine_47 : decode cX5_isFine 47 = .ok (.getfield 46, 3) := by decide +kernel
theorem dX5_isFine_50 : decode cX5_isFine 50 = .ok (.iload_n 3, 1) := by decide +kernel
theorem dX5_isFine_51 : decode cX5_isFine 51 = .ok (.iaload, 1) := by decide +kernel
theorem dX5_isFine_52 : decode cX5_isFine 52 = .ok (.iconst (-1), 1) := by decide +kernel
theorem dX5_isFine_53 : decode cX5_isFine 53 = .ok (.if_icmp .eq 7, 3) := by decide +kernel
theorem dX5_isFine_56 : decode cX5_isFine 56 = .ok (.iconst 1, 1) := by decide +kernel
theorem dX5_isFine_57 : decode cX5_isFine 57 = .ok (.goto 4, 3) := by decide +kernel
theorem dX5_isFine_60 : decode cX5_isFine 60 = .ok (.iconst 0, 1) := by decide +kernel
theorem dX5_isFine_61 : decode cX5_isFine 61 = .ok (.istore 5, 2) := by decide +kernel
theorem dX5_isFine_63 : decode cX5_isFine 63 = .ok (.aload_n 0, 1) := by decide +kernel
theorem dX5_isFine_64 : decode cX5_isFine 64 = .ok (.getfield 46, 3) := by decide +kernel
theorem dX5_isFine_67 : decode cX5_isFine 67 = .ok (.iload 4, 2) := by decide +kernel
theorem dX5_isFine_69 : decode cX5_isFine 69 = .ok (.iaload, 1) := by decide +kernel
theorem dX5_isFine_70 : decode cX5_isFine 70 = .ok (.iconst (-1), 1) := by decide +kernel
theorem dX5_isFine_71 : decode cX5_isFine 71 = .ok (.if_icmp .eq 7, 3) := by decide +kernel
theorem dX5_isFine_74 : decode cX5_isFine 74 = .ok (.iconst 1, 1) := by decide +kernel
theorem dX5_isFine_75 : decode cX5_isFine 75 = .ok (.goto 4, 3) := by decide +kernel
theorem dX5_isFine_78 : decode cX5_isFine 78 = .ok (.iconst 0, 1) := by decide +kernel
theorem dX5_isFine_79 : decode cX5_isFine 79 = .ok (.istore 6, 2) := by decide +kernel
theorem dX5_isFine_81 : decode cX5_isFine 81 = .ok (.iload_n 3, 1) := by decide +kernel
theorem dX5_isFine_82 : decode cX5_isFine 82 = .ok (.iload_n 1, 1) := by decide +kernel
theorem dX5_isFine_83 : decode cX5_isFine 83 = .ok (.if_icmp .eq 9, 3) := by decide +kernel
theorem dX5_isFine_86 : decode cX5_isFine 86 = .ok (.iload 4, 2) := by decide +kernel
theorem dX5_isFine_88 : decode cX5_isFine 88 = .ok (.iload_n 1, 1) := by decide +kernel
theorem dX5_isFine_89 : decode cX5_isFine 89 = .ok (.if_icmp .ne 26, 3) := by decide +kernel
theorem dX5_isFine_92 : decode cX5_isFine 92 = .ok (.iload 5, 2) := by decide +kernel
theorem dX5_isFine_94 : decode cX5_isFine 94 = .ok (.ifCond .eq 44, 3) := by decide +kernel
theorem dX5_isFine_97 : decode cX5_isFine 97 = .ok (.iload 6, 2) := by decide +kernel
theorem dX5_isFine_99 : decode cX5_isFine 99 = .ok (.ifCond .eq 39, 3) := by decide +kernel
theorem dX5_isFine_102 : decode cX5_isFine 102 = .ok (.aload_n 0, 1) := by decide +kernel
theorem dX5_isFine_103 : decode cX5_isFine 103 = .ok (.iload_n 2, 1) := by decide +kernel
theorem dX5_isFine_104 : decode cX5_isFine 104 = .ok (.iload_n 3, 1) := by decide +kernel
theorem dX5_isFine_105 : decode cX5_isFine 105 = .ok (.iload 4, 2) := by decide +kernel
end
section
theorem dX5_isFine_107 : decode cX5_isFine 107 = .ok (.invokevirtual 136, 3) := by decide +kernel
theorem dX5_isFine_110 : decode cX5_isFine 110 = .ok (.ifCond .ne 28, 3) := by decide +kernel
theorem dX5_isFine_113 : decode cX5_isFine 113 = .ok (.iconst 0, 1) := by decide +kernel
theorem dX5_isFine_114 : decode cX5_isFine 114 = .ok (.ireturn, 1) := by decide +kernel
theorem dX5_isFine_115 : decode cX5_isFine 115 = .ok (.iload 5, 2) := by decide +kernel
theorem dX5_isFine_117 : decode cX5_isFine 117 = .ok (.iload 6, 2) := by decide +kernel
theorem dX5_isFine_119 : decode cX5_isFine 119 = .ok (.if_icmp .eq 19, 3) := by decide +kernel
theorem dX5_isFine_122 : decode cX5_isFine 122 = .ok (.aload_n 0, 1) := by decide +kernel
theorem dX5_isFine_123 : decode cX5_isFine 123 = .ok (.iload_n 1, 1) := by decide +kernel
theorem dX5_isFine_124 : decode cX5_isFine 124 = .ok (.aload_n 0, 1) := by decide +kernel
theorem dX5_isFine_125 : decode cX5_isFine 125 = .ok (.getfield 49, 3) := by decide +kernel
theorem dX5_isFine_128 : decode cX5_isFine 128 = .ok (.iload_n 2, 1) := by decide +kernel
theorem dX5_isFine_129 : decode cX5_isFine 129 = .ok (.iaload, 1) := by decide +kernel
theorem dX5_isFine_130 : decode cX5_isFine 130 = .ok (.invokevirtual 140, 3) := by decide +kernel
theorem dX5_isFine_133 : decode cX5_isFine 133 = .ok (.ifCond .eq 5, 3) := by decide +kernel
theorem dX5_isFine_136 : decode cX5_isFine 136 = .ok (.iconst 0, 1) := by decide +kernel
theorem dX5_isFine_137 : decode cX5_isFine 137 = .ok (.ireturn, 1) := by decide +kernel
theorem dX5_isFine_138 : decode cX5_isFine 138 = .ok (.iinc 2 1, 3) := by decide +kernel
theorem dX5_isFine_141 : decode cX5_isFine 141 = .ok (.goto (-139), 3) := by decide +kernel
theorem dX5_isFine_144 : decode cX5_isFine 144 = .ok (.iconst 1, 1) := by decide +kernel
theorem dX5_isFine_145 : decode cX5_isFine 145 = .ok (.ireturn, 1) := by decide +kernel
theorem dX5_isClosed_0 : decode cX5_isClosed 0 = .ok (.aload_n 0, 1) := by decide +kernel
theorem dX5_isClosed_1 : decode cX5_isClosed 1 = .ok (.getfield 34, 3) := by decide +kernel
theorem dX5_isClosed_4 : decode cX5_isClosed 4 = .ok (.bipush 12, 2) := by decide +kernel
theorem dX5_isClosed_6 : decode cX5_isClosed 6 = .ok (.aload_n 0, 1) := by decide +kernel
theorem dX5_isClosed_7 : decode cX5_isClosed 7 = .ok (.getfield 117, 3) := by decide +kernel
theorem dX5_isClosed_10 : decode cX5_isClosed 10 = .ok (.imul, 1) := by decide +kernel
theorem dX5_isClosed_11 : decode cX5_isClosed 11 = .ok (.iload_n 1, 1) := by decide +kernel
theorem dX5_isClosed_12 : decode cX5_isClosed 12 = .ok (.iadd, 1) := by decide +kernel
theorem dX5_isClosed_13 : decode cX5_isClosed 13 = .ok (.iaload, 1) := by decide +kernel
theorem dX5_isClosed_14 : decode cX5_isClosed 14 = .ok (.istore 4, 2) := by decide +kernel
theorem dX5_isClosed_16 : decode cX5_isClosed 16 = .ok (.iload 4, 2) := by decide +kernel
theorem dX5_isClosed_18 : decode cX5_isClosed 18 = .ok (.ifCond .eq 15, 3) := by decide +kernel
theorem dX5_isClosed_21 : decode cX5_isClosed 21 = .ok (.iload 4, 2) := by decide +kernel
theorem dX5_isClosed_23 : decode cX5_isClosed 23 = .ok (.aload_n 0, 1) := by decide +kernel
theorem dX5_isClosed_24 : decode cX5_isClosed 24 = .ok (.iload_n 1, 1) := by decide +kernel
theorem dX5_isClosed_25 : decode cX5_isClosed 25 = .ok (.invokevirtual 143, 3) := by decide +kernel
theorem dX5_isClosed_28 : decode cX5_isClosed 28 = .ok (.if_icmp .eq 5, 3) := by decide +kernel
theorem dX5_isClosed_31 : decode cX5_isClosed 31 = .ok (.iconst 0, 1) := by decide +kernel
theorem dX5_isClosed_32 : decode cX5_isClosed 32 = .ok (.ireturn, 1) := by decide +kernel
theorem dX5_isClosed_33 : decode cX5_isClosed 33 = .ok (.aload_n 0, 1) := by decide +kernel
theorem dX5_isClosed_34 : decode cX5_isClosed 34 = .ok (.getfield 46, 3) := by decide +kernel
theorem dX5_isClosed_37 : decode cX5_isClosed 37 = .ok (.iload_n 2, 1) := by decide +kernel
theorem dX5_isClosed_38 : decode cX5_isClosed 38 = .ok (.iaload, 1) := by decide +kernel
theorem dX5_isClosed_39 : decode cX5_isClosed 39 = .ok (.aload_n 0, 1) := by decide +kernel
theorem dX5_isClosed_40 : decode cX5_isClosed 40 = .ok (.getfield 46, 3) := by decide +kernel
theorem dX5_isClosed_43 : decode cX5_isClosed 43 = .ok (.iload_n 3, 1) := by decide +kernel
theorem dX5_isClosed_44 : decode cX5_isClosed 44 = .ok (.iaload, 1) := by decide +kernel
theorem dX5_isClosed_45 : decode cX5_isClosed 45 = .ok (.invokestatic 127, 3) := by decide +kernel
theorem dX5_isClosed_48 : decode cX5_isClosed 48 = .ok (.istore 5, 2) := by decide +kernel
theorem dX5_isClosed_50 : decode cX5_isClosed 50 = .ok (.aload_n 0, 1) := by decide +kernel
theorem dX5_isClosed_51 : decode cX5_isClosed 51 = .ok (.getfield 46, 3) := by decide +kernel
theorem dX5_isClosed_54 : decode cX5_isClosed 54 = .ok (.iload_n 2, 1) := by decide +kernel
theorem dX5_isClosed_55 : decode cX5_isClosed 55 = .ok (.iaload, 1) := by decide +kernel
theorem dX5_isClosed_56 : decode cX5_isClosed 56 = .ok (.aload_n 0, 1) := by decide +kernel
theorem dX5_isClosed_57 : decode cX5_isClosed 57 = .ok (.getfield 46, 3) := by decide +kernel
theorem dX5_isClosed_60 : decode cX5_isClosed 60 = .ok (.iload_n 3, 1) := by decide +kernel
theorem dX5_isClosed_61 : decode cX5_isClosed 61 = .ok (.iaload, 1) := by decide +kernel
theorem dX5_isClosed_62 : decode cX5_isClosed 62 = .ok (.invokestatic 130, 3) := by decide +kernel
theorem dX5_isClosed_65 : decode cX5_isClosed 65 = .ok (.istore 6, 2) := by decide +kernel
theorem dX5_isClosed_67 : decode cX5_isClosed 67 = .ok (.iconst 0, 1) := by decide +kernel
theorem dX5_isClosed_68 : decode cX5_isClosed 68 = .ok (.istore 7, 2) := by decide +kernel
theorem dX5_isClosed_70 : decode cX5_isClosed 70 = .ok (.iload 7, 2) := by decide +kernel
theorem dX5_isClosed_72 : decode cX5_isClosed 72 = .ok (.aload_n 0, 1) := by decide +kernel
theorem dX5_isClosed_73 : decode cX5_isClosed 73 = .ok (.getfield 22, 3) := by decide +kernel
theorem dX5_isClosed_76 : decode cX5_isClosed 76 = .ok (.aload_n 0, 1) := by decide +kernel
theorem dX5_isClosed_77 : decode cX5_isClosed 77 = .ok (.getfield 117, 3) := by decide +kernel
theorem dX5_isClosed_80 : decode cX5_isClosed 80 = .ok (.iaload, 1) := by decide +kernel
theorem dX5_isClosed_81 : decode cX5_isClosed 81 = .ok (.if_icmp .ge 142, 3) := by decide +kernel
theorem dX5_isClosed_84 : decode cX5_isClosed 84 = .ok (.iload 7, 2) := by decide +kernel
theorem dX5_isClosed_86 : decode cX5_isClosed 86 = .ok (.iload_n 1, 1) := by decide +kernel
theorem dX5_isClosed_87 : decode cX5_isClosed 87 = .ok (.if_icmp .eq 130, 3) := by decide +kernel
theorem dX5_isClosed_90 : decode cX5_isClosed 90 = .ok (.aload_n 0, 1) := by decide +kernel
theorem dX5_isClosed_91 : decode cX5_isClosed 91 = .ok (.iload_n 1, 1) := by decide +kernel
theorem dX5_isClosed_92 : decode cX5_isClosed 92 = .ok (.iload 7, 2) := by decide +kernel
theorem dX5_isClosed_94 : decode cX5_isClosed 94 = .ok (.invokevirtual 146, 3) := by decide +kernel
theorem dX5_isClosed_97 : decode cX5_isClosed 97 = .ok (.ifCond .eq 120, 3) := by decide +kernel
theorem dX5_isClosed_100 : decode cX5_isClosed 100 = .ok (.aload_n 0, 1) := by decide +kernel
theorem dX5_isClosed_101 : decode cX5_isClosed 101 = .ok (.iload_n 1, 1) := by decide +kernel
theorem dX5_isClosed_102 : decode cX5_isClosed 102 = .ok (.iload 7, 2) := by decide +kernel
theorem dX5_isClosed_104 : decode cX5_isClosed 104 = .ok (.invokevirtual 149, 3) := by decide +kernel
theorem dX5_isClosed_107 : decode cX5_isClosed 107 = .ok (.ifCond .eq 110, 3) := by decide +kernel
theorem dX5_isClosed_110 : decode cX5_isClosed 110 = .ok (.aload_n 0, 1) := by decide +kernel
theorem dX5_isClosed_111 : decode cX5_isClosed 111 = .ok (.getfield 46, 3) := by decide +kernel
theorem dX5_isClosed_114 : decode cX5_isClosed 114 = .ok (.aload_n 0, 1) := by decide +kernel
theorem dX5_isClosed_115 : decode cX5_isClosed 115 = .ok (.getfield 28, 3) := by decide +kernel
theorem dX5_isClosed_118 : decode cX5_isClosed 118 = .ok (.bipush 12, 2) := by decide +kernel
theorem dX5_isClosed_120 : decode cX5_isClosed 120 = .ok (.aload_n 0, 1) := by decide +kernel
theorem dX5_isClosed_121 : decode cX5_isClosed 121 = .ok (.getfield 117, 3) := by decide +kernel
theorem dX5_isClosed_124 : decode cX5_isClosed 124 = .ok (.imul, 1) := by decide +kernel
theorem dX5_isClosed_125 : decode cX5_isClosed 125 = .ok (.iload 7, 2) := by decide +kernel
theorem dX5_isClosed_127 : decode cX5_isClosed 127 = .ok (.iadd, 1) := by decide +kernel
theorem dX5_isClosed_128 : decode cX5_isClosed 128 = .ok (.iaload, 1) := by decide +kernel
theorem dX5_isClosed_129 : decode cX5_isClosed 129 = .ok (.iaload, 1) := by decide +kernel
theorem dX5_isClosed_130 : decode cX5_isClosed 130 = .ok (.istore 8, 2) := by decide +kernel
theorem dX5_isClosed_132 : decode cX5_isClosed 132 = .ok (.aload_n 0, 1) := by decide +kernel
theorem dX5_isClosed_133 : decode cX5_isClosed 133 = .ok (.getfield 46, 3) := by decide +kernel
theorem dX5_isClosed_136 : decode cX5_isClosed 136 = .ok (.aload_n 0, 1) := by decide +kernel
theorem dX5_isClosed_137 : decode cX5_isClosed 137 = .ok (.getfield 31, 3) := by decide +kernel
theorem dX5_isClosed_140 : decode cX5_isClosed 140 = .ok (.bipush 12, 2) := by decide +kernel
theorem dX5_isClosed_142 : decode cX5_isClosed 142 = .ok (.aload_n 0, 1) := by decide +kernel
theorem dX5_isClosed_143 : decode cX5_isClosed 143 = .ok (.getfield 117, 3) := by decide +kernel
theorem dX5_isClosed_146 : decode cX5_isClosed 146 = .ok (.imul, 1) := by decide +kernel
theorem dX5_isClosed_147 : decode cX5_isClosed 147 = .ok (.iload 7, 2) := by decide +kernel
theorem dX5_isClosed_149 : decode cX5_isClosed 149 = .ok (.iadd, 1) := by decide +kernel
theorem dX5_isClosed_150 : decode cX5_isClosed 150 = .ok (.iaload, 1) := by decide +kernel
theorem dX5_isClosed_151 : decode cX5_isClosed 151 = .ok (.iaload, 1) := by decide +kernel
theorem dX5_isClosed_152 : decode cX5_isClosed 152 = .ok (.istore 9, 2) := by decide +kernel
theorem dX5_isClosed_154 : decode cX5_isClosed 154 = .ok (.iload 8, 2) := by decide +kernel
theorem dX5_isClosed_156 : decode cX5_isClosed 156 = .ok (.iconst (-1), 1) := by decide +kernel
theorem dX5_isClosed_157 : decode cX5_isClosed 157 = .ok (.if_icmp .eq 21, 3) := by decide +kernel
theorem dX5_isClosed_160 : decode cX5_isClosed 160 = .ok (.iload 8, 2) := by decide +kernel
theorem dX5_isClosed_162 : decode cX5_isClosed 162 = .ok (.iload 5, 2) := by decide +kernel
theorem dX5_isClosed_164 : decode cX5_isClosed 164 = .ok (.if_icmp .le 14, 3) := by decide +kernel
theorem dX5_isClosed_167 : decode cX5_isClosed 167 = .ok (.iload 8, 2) := by decide +kernel
theorem dX5_isClosed_169 : decode cX5_isClosed 169 = .ok (.iload 6, 2) := by decide +kernel
theorem dX5_isClosed_171 : decode cX5_isClosed 171 = .ok (.if_icmp .ge 7, 3) := by decide +kernel
theorem dX5_isClosed_174 : decode cX5_isClosed 174 = .ok (.iconst 1, 1) := by decide +kernel
theorem dX5_isClosed_175 : decode cX5_isClosed 175 = .ok (.goto 4, 3) := by decide +kernel
theorem dX5_isClosed_178 : decode cX5_isClosed 178 = .ok (.iconst 0, 1) := by decide +kernel
theorem dX5_isClosed_179 : decode cX5_isClosed 179 = .ok (.istore 10, 2) := by decide +kernel
theorem dX5_isClosed_181 : decode cX5_isClosed 181 = .ok (.iload 9, 2) := by decide +kernel
theorem dX5_isClosed_183 : decode cX5_isClosed 183 = .ok (.iconst (-1), 1) := by decide +kernel
theorem dX5_isClosed_184 : decode cX5_isClosed 184 = .ok (.if_icmp .eq 21, 3) := by decide +kernel
theorem dX5_isClosed_187 : decode cX5_isClosed 187 = .ok (.iload 9, 2) := by decide +kernel
theorem dX5_isClosed_189 : decode cX5_isClosed 189 = .ok (.iload 5, 2) := by decide +kernel
theorem dX5_isClosed_191 : decode cX5_isClosed 191 = .ok (.if_icmp .le 14, 3) := by decide +kernel
theorem dX5_isClosed_194 : decode cX5_isClosed 194 = .ok (.iload 9, 2) := by decide +kernel
theorem dX5_isClosed_196 : decode cX5_isClosed 196 = .ok (.iload 6, 2) := by decide +kernel
theorem dX5_isClosed_198 : decode cX5_isClosed 198 = .ok (.if_icmp .ge 7, 3) := by decide +kernel
theorem dX5_isClosed_201 : decode cX5_isClosed 201 = .ok (.iconst 1, 1) := by decide +kernel
theorem dX5_isClosed_202 : decode cX5_isClosed 202 = .ok (.goto 4, 3) := by decide +kernel
theorem dX5_isClosed_205 : decode cX5_isClosed 205 = .ok (.iconst 0, 1) := by decide +kernel
theorem dX5_isClosed_206 : decode cX5_isClosed 206 = .ok (.istore 11, 2) := by decide +kernel
theorem dX5_isClosed_208 : decode cX5_isClosed 208 = .ok (.iload 10, 2) := by decide +kernel
theorem dX5_isClosed_210 : decode cX5_isClosed 210 = .ok (.iload 11, 2) := by decide +kernel
theorem dX5_isClosed_212 : decode cX5_isClosed 212 = .ok (.if_icmp .eq 5, 3) := by decide +kernel
theorem dX5_isClosed_215 : decode cX5_isClosed 215 = .ok (.iconst 0, 1) := by decide +kernel
theorem dX5_isClosed_216 : decode cX5_isClosed 216 = .ok (.ireturn, 1) := by decide +kernel
theorem dX5_isClosed_217 : decode cX5_isClosed 217 = .ok (.iinc 7 1, 3) := by decide +kernel
theorem dX5_isClosed_220 : decode cX5_isClosed 220 = .ok (.goto (-150), 3) := by decide +kernel
theorem dX5_isClosed_223 : decode cX5_isClosed 223 = .ok (.iconst 1, 1) := by decide +kernel
theorem dX5_isClosed_224 : decode cX5_isClosed 224 = .ok (.ireturn, 1) := by decide +kernel
theorem dX5_next_0 : decode cX5_next 0 = .ok (.aload_n 0, 1) := by decide +kernel
theorem dX5_next_1 : decode cX5_next 1 = .ok (.getfield 13, 3) := by decide +kernel
theorem dX5_next_4 : decode cX5_next 4 = .ok (.aload_n 0, 1) := by decide +kernel
theorem dX5_next_5 : decode cX5_next 5 = .ok (.getfield 117, 3) := by decide +kernel
theorem dX5_next_8 : decode cX5_next 8 = .ok (.iaload, 1) := by decide +kernel
theorem dX5_next_9 : decode cX5_next 9 = .ok (.istore_n 1, 1) := by decide +kernel
theorem dX5_next_10 : decode cX5_next 10 = .ok (.aload_n 0, 1) := by decide +kernel
theorem dX5_next_11 : decode cX5_next 11 = .ok (.getfield 7, 3) := by decide +kernel
theorem dX5_next_14 : decode cX5_next 14 = .ok (.aload_n 0, 1) := by decide +kernel
theorem dX5_next_15 : decode cX5_next 15 = .ok (.getfield 117, 3) := by decide +kernel
theorem dX5_next_18 : decode cX5_next 18 = .ok (.iaload, 1) := by decide +kernel
theorem dX5_next_19 : decode cX5_next 19 = .ok (.iconst 1, 1) := by decide +kernel
theorem dX5_next_20 : decode cX5_next 20 = .ok (.if_icmp .ne 23, 3) := by decide +kernel
theorem dX5_next_23 : decode cX5_next 23 = .ok (.iload_n 1, 1) := by decide +kernel
theorem dX5_next_24 : decode cX5_next 24 = .ok (.iconst 2, 1) := by decide +kernel
theorem dX5_next_25 : decode cX5_next 25 = .ok (.irem, 1) := by decide +kernel
theorem dX5_next_26 : decode cX5_next 26 = .ok (.iconst 1, 1) := by decide +kernel
theorem dX5_next_27 : decode cX5_next 27 = .ok (.if_icmp .eq 14, 3) := by decide +kernel
theorem dX5_next_30 : decode cX5_next 30 = .ok (.aload_n 0, 1) := by decide +kernel
theorem dX5_next_31 : decode cX5_next 31 = .ok (.aload_n 0, 1) := by decide +kernel
theorem dX5_next_32 : decode cX5_next 32 = .ok (.getfield 117, 3) := by decide +kernel
theorem dX5_next_35 : decode cX5_next 35 = .ok (.invokevirtual 107, 3) := by decide +kernel
theorem dX5_next_38 : decode cX5_next 38 = .ok (.ifCond .eq 5, 3) := by decide +kernel
theorem dX5_next_41 : decode cX5_next 41 = .ok (.iconst 0, 1) := by decide +kernel
theorem dX5_next_42 : decode cX5_next 42 = .ok (.ireturn, 1) := by decide +kernel
theorem dX5_next_43 : decode cX5_next 43 = .ok (.iconst 0, 1) := by decide +kernel
theorem dX5_next_44 : decode cX5_next 44 = .ok (.istore_n 2, 1) := by decide +kernel
theorem dX5_next_45 : decode cX5_next 45 = .ok (.aload_n 0, 1) := by decide +kernel
theorem dX5_next_46 : decode cX5_next 46 = .ok (.getfield 123, 3) := by decide +kernel
theorem dX5_next_49 : decode cX5_next 49 = .ok (.ifCond .eq 40, 3) := by decide +kernel
theorem dX5_next_52 : decode cX5_next 52 = .ok (.aload_n 0, 1) := by decide +kernel
theorem dX5_next_53 : decode cX5_next 53 = .ok (.dup, 1) := by decide +kernel
theorem dX5_next_54 : decode cX5_next 54 = .ok (.getfield 120, 3) := by decide +kernel
theorem dX5_next_57 : decode cX5_next 57 = .ok (.iconst 1, 1) := by decide +kernel
theorem dX5_next_58 : decode cX5_next 58 = .ok (.isub, 1) := by decide +kernel
theorem dX5_next_59 : decode cX5_next 59 = .ok (.putfield 120, 3) := by decide +kernel
theorem dX5_next_62 : decode cX5_next 62 = .ok (.aload_n 0, 1) := by decide +kernel
theorem dX5_next_63 : decode cX5_next 63 = .ok (.getfield 43, 3) := by decide +kernel
theorem dX5_next_66 : decode cX5_next 66 = .ok (.aload_n 0, 1) := by decide +kernel
theorem dX5_next_67 : decode cX5_next 67 = .ok (.getfield 120, 3) := by decide +kernel
theorem dX5_next_70 : decode cX5_next 70 = .ok (.iaload, 1) := by decide +kernel
theorem dX5_next_71 : decode cX5_next 71 = .ok (.iconst 1, 1) := by decide +kernel
theorem dX5_next_72 : decode cX5_next 72 = .ok (.iadd, 1) := by decide +kernel
theorem dX5_next_73 : decode cX5_next 73 = .ok (.istore_n 2, 1) := by decide +kernel
theorem dX5_next_74 : decode cX5_next 74 = .ok (.aload_n 0, 1) := by decide +kernel
theorem dX5_next_75 : decode cX5_next 75 = .ok (.getfield 46, 3) := by decide +kernel
theorem dX5_next_78 : decode cX5_next 78 = .ok (.aload_n 0, 1) := by decide +kernel
theorem dX5_next_79 : decode cX5_next 79 = .ok (.getfield 43, 3) := by decide +kernel
theorem dX5_next_82 : decode cX5_next 82 = .ok (.aload_n 0, 1) := by decide +kernel
theorem dX5_next_83 : decode cX5_next 83 = .ok (.getfield 120, 3) := by decide +kernel
theorem dX5_next_86 : decode cX5_next 86 = .ok (.iaload, 1) := by decide +kernel
theorem dX5_next_87 : decode cX5_next 87 = .ok (.iconst (-1), 1) := by decide +kernel
theorem dX5_next_88 : decode cX5_next 88 = .ok (.iastore, 1) := by decide +kernel
theorem dX5_next_89 : decode cX5_next 89 = .ok (.aload_n 0, 1) := by decide +kernel
theorem dX5_next_90 : decode cX5_next 90 = .ok (.iconst 1, 1) := by decide +kernel
theorem dX5_next_91 : decode cX5_next 91 = .ok (.putfield 123, 3) := by decide +kernel
theorem dX5_next_94 : decode cX5_next 94 = .ok (.iload_n 2, 1) := by decide +kernel
theorem dX5_next_95 : decode cX5_next 95 = .ok (.istore_n 3, 1) := by decide +kernel
theorem dX5_next_96 : decode cX5_next 96 = .ok (.iconst 0, 1) := by decide +kernel
theorem dX5_next_97 : decode cX5_next 97 = .ok (.istore 4, 2) := by decide +kernel
theorem dX5_next_99 : decode cX5_next 99 = .ok (.iload_n 3, 1) := by decide +kernel
theorem dX5_next_100 : decode cX5_next 100 = .ok (.iload_n 1, 1) := by decide +kernel
theorem dX5_next_101 : decode cX5_next 101 = .ok (.if_icmp .ge 63, 3) := by decide +kernel
theorem dX5_next_104 : decode cX5_next 104 = .ok (.iload 4, 2) := by decide +kernel
theorem dX5_next_106 : decode cX5_next 106 = .ok (.ifCond .ne 58, 3) := by decide +kernel
theorem dX5_next_109 : decode cX5_next 109 = .ok (.aload_n 0, 1) := by decide +kernel
theorem dX5_next_110 : decode cX5_next 110 = .ok (.getfield 46, 3) := by decide +kernel
theorem dX5_next_113 : decode cX5_next 113 = .ok (.iload_n 3, 1) := by decide +kernel
theorem dX5_next_114 : decode cX5_next 114 = .ok (.iaload, 1) := by decide +kernel
theorem dX5_next_115 : decode cX5_next 115 = .ok (.iconst (-1), 1) := by decide +kernel
theorem dX5_next_116 : decode cX5_next 116 = .ok (.if_icmp .ne 32, 3) := by decide +kernel
theorem dX5_next_119 : decode cX5_next 119 = .ok (.aload_n 0, 1) := by decide +kernel
theorem dX5_next_120 : decode cX5_next 120 = .ok (.getfield 46, 3) := by decide +kernel
theorem dX5_next_123 : decode cX5_next 123 = .ok (.iload_n 3, 1) := by decide +kernel
theorem dX5_next_124 : decode cX5_next 124 = .ok (.aload_n 0, 1) := by decide +kernel
theorem dX5_next_125 : decode cX5_next 125 = .ok (.getfield 120, 3) := by decide +kernel
theorem dX5_next_128 : decode cX5_next 128 = .ok (.iastore, 1) := by decide +kernel
theorem dX5_next_129 : decode cX5_next 129 = .ok (.aload_n 0, 1) := by decide +kernel
theorem dX5_next_130 : decode cX5_next 130 = .ok (.iload_n 3, 1) := by decide +kernel
theorem dX5_next_131 : decode cX5_next 131 = .ok (.invokevirtual 152, 3) := by decide +kernel
theorem dX5_next_134 : decode cX5_next 134 = .ok (.istore 4, 2) := by decide +kernel
theorem dX5_next_136 : decode cX5_next 136 = .ok (.iload 4, 2) := by decide +kernel
theorem dX5_next_138 : decode cX5_next 138 = .ok (.ifCond .ne 10, 3) := by decide +kernel
theorem dX5_next_141 : decode cX5_next 141 = .ok (.aload_n 0, 1) := by decide +kernel
theorem dX5_next_142 : decode cX5_next 142 = .ok (.getfield 46, 3) := by decide +kernel
theorem dX5_next_145 : decode cX5_next 145 = .ok (.iload_n 3, 1) := by decide +kernel
theorem dX5_next_146 : decode cX5_next 146 = .ok (.iconst (-1), 1) := by decide +kernel
theorem dX5_next_147 : decode cX5_next 147 = .ok (.iastore, 1) := by decide +kernel
theorem dX5_next_148 : decode cX5_next 148 = .ok (.iload_n 3, 1) := by decide +kernel
theorem dX5_next_149 : decode cX5_next 149 = .ok (.iload 4, 2) := by decide +kernel
theorem dX5_next_151 : decode cX5_next 151 = .ok (.ifCond .eq 7, 3) := by decide +kernel
theorem dX5_next_154 : decode cX5_next 154 = .ok (.iconst 0, 1) := by decide +kernel
theorem dX5_next_155 : decode cX5_next 155 = .ok (.goto 4, 3) := by decide +kernel
theorem dX5_next_158 : decode cX5_next 158 = .ok (.iconst 1, 1) := by decide +kernel
theorem dX5_next_159 : decode cX5_next 159 = .ok (.iadd, 1) := by decide +kernel
theorem dX5_next_160 : decode cX5_next 160 = .ok (.istore_n 3, 1) := by decide +kernel
theorem dX5_next_161 : decode cX5_next 161 = .ok (.goto (-62), 3) := by decide +kernel
theorem dX5_next_164 : decode cX5_next 164 = .ok (.iload 4, 2) := by decide +kernel
theorem dX5_next_166 : decode cX5_next 166 = .ok (.ifCond .eq 35, 3) := by decide +kernel
theorem dX5_next_169 : decode cX5_next 169 = .ok (.aload_n 0, 1) := by decide +kernel
theorem dX5_next_170 : decode cX5_next 170 = .ok (.getfield 43, 3) := by decide +kernel
theorem dX5_next_173 : decode cX5_next 173 = .ok (.aload_n 0, 1) := by decide +kernel
theorem dX5_next_174 : decode cX5_next 174 = .ok (.getfield 120, 3) := by decide +kernel
theorem dX5_next_177 : decode cX5_next 177 = .ok (.iload_n 3, 1) := by decide +kernel
theorem dX5_next_178 : decode cX5_next 178 = .ok (.iastore, 1) := by decide +kernel
theorem dX5_next_179 : decode cX5_next 179 = .ok (.aload_n 0, 1) := by decide +kernel
theorem dX5_next_180 : decode cX5_next 180 = .ok (.dup, 1) := by decide +kernel
theorem dX5_next_181 : decode cX5_next 181 = .ok (.getfield 120, 3) := by decide +kernel
theorem dX5_next_184 : decode cX5_next 184 = .ok (.iconst 1, 1) := by decide +kernel
theorem dX5_next_185 : decode cX5_next 185 = .ok (.iadd, 1) := by decide +kernel
theorem dX5_next_186 : decode cX5_next 186 = .ok (.putfield 120, 3) := by decide +kernel
theorem dX5_next_189 : decode cX5_next 189 = .ok (.iconst 0, 1) := by decide +kernel
theorem dX5_next_190 : decode cX5_next 190 = .ok (.istore_n 2, 1) := by decide +kernel
theorem dX5_next_191 : decode cX5_next 191 = .ok (.aload_n 0, 1) := by decide +kernel
theorem dX5_next_192 : decode cX5_next 192 = .ok (.getfield 120, 3) := by decide +kernel
theorem dX5_next_195 : decode cX5_next 195 = .ok (.iload_n 1, 1) := by decide +kernel
theorem dX5_next_196 : decode cX5_next 196 = .ok (.if_icmp .ne 51, 3) := by decide +kernel
theorem dX5_next_199 : decode cX5_next 199 = .ok (.iconst 1, 1) := by decide +kernel
theorem dX5_next_200 : decode cX5_next 200 = .ok (.ireturn, 1) := by decide +kernel
theorem dX5_next_201 : decode cX5_next 201 = .ok (.aload_n 0, 1) := by decide +kernel
theorem dX5_next_202 : decode cX5_next 202 = .ok (.getfield 120, 3) := by decide +kernel
theorem dX5_next_205 : decode cX5_next 205 = .ok (.ifCond .ne 5, 3) := by decide +kernel
theorem dX5_next_208 : decode cX5_next 208 = .ok (.iconst 0, 1) := by decide +kernel
theorem dX5_next_209 : decode cX5_next 209 = .ok (.ireturn, 1) := by decide +kernel
theorem dX5_next_210 : decode cX5_next 210 = .ok (.aload_n 0, 1) := by decide +kernel
theorem dX5_next_211 : decode cX5_next 211 = .ok (.dup, 1) := by decide +kernel
theorem dX5_next_212 : decode cX5_next 212 = .ok (.getfield 120, 3) := by decide +kernel
theorem dX5_next_215 : decode cX5_next 215 = .ok (.iconst 1, 1) := by decide +kernel
theorem dX5_next_216 : decode cX5_next 216 = .ok (.isub, 1) := by decide +kernel
theorem dX5_next_217 : decode cX5_next 217 = .ok (.putfield 120, 3) := by decide +kernel
theorem dX5_next_220 : decode cX5_next 220 = .ok (.aload_n 0, 1) := by decide +kernel
theorem dX5_next_221 : decode cX5_next 221 = .ok (.getfield 43, 3) := by decide +kernel
theorem dX5_next_224 : decode cX5_next 224 = .ok (.aload_n 0, 1) := by decide +kernel
theorem dX5_next_225 : decode cX5_next 225 = .ok (.getfield 120, 3) := by decide +kernel
theorem dX5_next_228 : decode cX5_next 228 = .ok (.iaload, 1) := by decide +kernel
theorem dX5_next_229 : decode cX5_next 229 = .ok (.iconst 1, 1) := by decide +kernel
theorem dX5_next_230 : decode cX5_next 230 = .ok (.iadd, 1) := by decide +kernel
theorem dX5_next_231 : decode cX5_next 231 = .ok (.istore_n 2, 1) := by decide +kernel
theorem dX5_next_232 : decode cX5_next 232 = .ok (.aload_n 0, 1) := by decide +kernel
theorem dX5_next_233 : decode cX5_next 233 = .ok (.getfield 46, 3) := by decide +kernel
theorem dX5_next_236 : decode cX5_next 236 = .ok (.aload_n 0, 1) := by decide +kernel
theorem dX5_next_237 : decode cX5_next 237 = .ok (.getfield 43, 3) := by decide +kernel
theorem dX5_next_240 : decode cX5_next 240 = .ok (.aload_n 0, 1) := by decide +kernel
theorem dX5_next_241 : decode cX5_next 241 = .ok (.getfield 120, 3) := by decide +kernel
theorem dX5_next_244 : decode cX5_next 244 = .ok (.iaload, 1) := by decide +kernel
theorem dX5_next_245 : decode cX5_next 245 = .ok (.iconst (-1), 1) := by decide +kernel
theorem dX5_next_246 : decode cX5_next 246 = .ok (.iastore, 1) := by decide +kernel
theorem dX5_next_247 : decode cX5_next 247 = .ok (.goto (-153), 3) := by decide +kernel
theorem dX5_number_0 : decode cX5_number 0 = .ok (.lconst 0, 1) := by decide +kernel
theorem dX5_number_1 : decode cX5_number 1 = .ok (.lstore_n 1, 1) := by decide +kernel
theorem dX5_number_2 : decode cX5_number 2 = .ok (.aload_n 0, 1) := by decide +kernel
theorem dX5_number_3 : decode cX5_number 3 = .ok (.getfield 13, 3) := by decide +kernel
theorem dX5_number_6 : decode cX5_number 6 = .ok (.aload_n 0, 1) := by decide +kernel
theorem dX5_number_7 : decode cX5_number 7 = .ok (.getfield 117, 3) := by decide +kernel
theorem dX5_number_10 : decode cX5_number 10 = .ok (.iaload, 1) := by decide +kernel
theorem dX5_number_11 : decode cX5_number 11 = .ok (.iconst 1, 1) := by decide +kernel
theorem dX5_number_12 : decode cX5_number 12 = .ok (.isub, 1) := by decide +kernel
theorem dX5_number_13 : decode cX5_number 13 = .ok (.istore_n 3, 1) := by decide +kernel
theorem dX5_number_14 : decode cX5_number 14 = .ok (.iload_n 3, 1) := by decide +kernel
theorem dX5_number_15 : decode cX5_number 15 = .ok (.ifCond .lt 23, 3) := by decide +kernel
theorem dX5_number_18 : decode cX5_number 18 = .ok (.ldc2_w 155, 3) := by decide +kernel
theorem dX5_number_21 : decode cX5_number 21 = .ok (.lload_n 1, 1) := by decide +kernel
theorem dX5_number_22 : decode cX5_number 22 = .ok (.lmul, 1) := by decide +kernel
theorem dX5_number_23 : decode cX5_number 23 = .ok (.aload_n 0, 1) := by decide +kernel
theorem dX5_number_24 : decode cX5_number 24 = .ok (.getfield 43, 3) := by decide +kernel
theorem dX5_number_27 : decode cX5_number 27 = .ok (.iload_n 3, 1) := by decide +kernel
theorem dX5_number_28 : decode cX5_number 28 = .ok (.iaload, 1) := by decide +kernel
theorem dX5_number_29 : decode cX5_number 29 = .ok (.i2l, 1) := by decide +kernel
theorem dX5_number_30 : decode cX5_number 30 = .ok (.ladd, 1) := by decide +kernel
theorem dX5_number_31 : decode cX5_number 31 = .ok (.lstore_n 1, 1) := by decide +kernel
theorem dX5_number_32 : decode cX5_number 32 = .ok (.iinc 3 (-1), 3) := by decide +kernel
theorem dX5_number_35 : decode cX5_number 35 = .ok (.goto (-21), 3) := by decide +kernel
theorem dX5_number_38 : decode cX5_number 38 = .ok (.lload_n 1, 1) := by decide +kernel
theorem dX5_number_39 : decode cX5_number 39 = .ok (.lreturn, 1) := by decide +kernel
theorem dX5_judge_0 : decode cX5_judge 0 = .ok (.aload_n 0, 1) := by decide +kernel
theorem dX5_judge_1 : decode cX5_judge 1 = .ok (.iload_n 1, 1) := by decide +kernel
theorem dX5_judge_2 : decode cX5_judge 2 = .ok (.invokevirtual 85, 3) := by decide +kernel
theorem dX5_judge_5 : decode cX5_judge 5 = .ok (.ifCond .ne 6, 3) := by decide +kernel
theorem dX5_judge_8 : decode cX5_judge 8 = .ok (.bipush (-101), 2) := by decide +kernel
theorem dX5_judge_10 : decode cX5_judge 10 = .ok (.ireturn, 1) := by decide +kernel
theorem dX5_judge_11 : decode cX5_judge 11 = .ok (.aload_n 0, 1) := by decide +kernel
theorem dX5_judge_12 : decode cX5_judge 12 = .ok (.iload_n 1, 1) := by decide +kernel
theorem dX5_judge_13 : decode cX5_judge 13 = .ok (.invokevirtual 157, 3) := by decide +kernel
theorem dX5_judge_16 : decode cX5_judge 16 = .ok (.aload_n 0, 1) := by decide +kernel
theorem dX5_judge_17 : decode cX5_judge 17 = .ok (.invokevirtual 161, 3) := by decide +kernel
theorem dX5_judge_20 : decode cX5_judge 20 = .ok (.ifCond .ne 5, 3) := by decide +kernel
theorem dX5_judge_23 : decode cX5_judge 23 = .ok (.iconst 0, 1) := by decide +kernel
theorem dX5_judge_24 : decode cX5_judge 24 = .ok (.ireturn, 1) := by decide +kernel
theorem dX5_judge_25 : decode cX5_judge 25 = .ok (.aload_n 0, 1) := by decide +kernel
theorem dX5_judge_26 : decode cX5_judge 26 = .ok (.iload_n 1, 1) := by decide +kernel
theorem dX5_judge_27 : decode cX5_judge 27 = .ok (.putfield 52, 3) := by decide +kernel
theorem dX5_judge_30 : decode cX5_judge 30 = .ok (.iconst 0, 1) := by decide +kernel
theorem dX5_judge_31 : decode cX5_judge 31 = .ok (.istore_n 2, 1) := by decide +kernel
theorem dX5_judge_32 : decode cX5_judge 32 = .ok (.iload_n 2, 1) := by decide +kernel
theorem dX5_judge_33 : decode cX5_judge 33 = .ok (.aload_n 0, 1) := by decide +kernel
theorem dX5_judge_34 : decode cX5_judge 34 = .ok (.getfield 13, 3) := by decide +kernel
theorem dX5_judge_37 : decode cX5_judge 37 = .ok (.iload_n 1, 1) := by decide +kernel
theorem dX5_judge_38 : decode cX5_judge 38 = .ok (.iaload, 1) := by decide +kernel
theorem dX5_judge_39 : decode cX5_judge 39 = .ok (.if_icmp .ge 21, 3) := by decide +kernel
theorem dX5_judge_42 : decode cX5_judge 42 = .ok (.aload_n 0, 1) := by decide +kernel
theorem dX5_judge_43 : decode cX5_judge 43 = .ok (.getfield 56, 3) := by decide +kernel
theorem dX5_judge_46 : decode cX5_judge 46 = .ok (.iload_n 2, 1) := by decide +kernel
theorem dX5_judge_47 : decode cX5_judge 47 = .ok (.aload_n 0, 1) := by decide +kernel
theorem dX5_judge_48 : decode cX5_judge 48 = .ok (.getfield 43, 3) := by decide +kernel
theorem dX5_judge_51 : decode cX5_judge 51 = .ok (.iload_n 2, 1) := by decide +kernel
theorem dX5_judge_52 : decode cX5_judge 52 = .ok (.iaload, 1) := by decide +kernel
theorem dX5_judge_53 : decode cX5_judge 53 = .ok (.iastore, 1) := by decide +kernel
theorem dX5_judge_54 : decode cX5_judge 54 = .ok (.iinc 2 1, 3) := by decide +kernel
theorem dX5_judge_57 : decode cX5_judge 57 = .ok (.goto (-25), 3) := by decide +kernel
theorem dX5_judge_60 : decode cX5_judge 60 = .ok (.iconst 1, 1) := by decide +kernel
theorem dX5_judge_61 : decode cX5_judge 61 = .ok (.ireturn, 1) := by decide +kernel
theorem dX5_layer_0 : decode cX5_layer 0 = .ok (.aload_n 0, 1) := by decide +kernel
theorem dX5_layer_1 : decode cX5_layer 1 = .ok (.getfield 52, 3) := by decide +kernel
theorem dX5_layer_4 : decode cX5_layer 4 = .ok (.iconst (-1), 1) := by decide +kernel
theorem dX5_layer_5 : decode cX5_layer 5 = .ok (.if_icmp .ne 8, 3) := by decide +kernel
theorem dX5_layer_8 : decode cX5_layer 8 = .ok (.bipush (-103), 2) := by decide +kernel
theorem dX5_layer_10 : decode cX5_layer 10 = .ok (.goto 31, 3) := by decide +kernel
theorem dX5_layer_13 : decode cX5_layer 13 = .ok (.iload_n 1, 1) := by decide +kernel
theorem dX5_layer_14 : decode cX5_layer 14 = .ok (.ifCond .lt 16, 3) := by decide +kernel
theorem dX5_layer_17 : decode cX5_layer 17 = .ok (.iload_n 1, 1) := by decide +kernel
theorem dX5_layer_18 : decode cX5_layer 18 = .ok (.aload_n 0, 1) := by decide +kernel
theorem dX5_layer_19 : decode cX5_layer 19 = .ok (.getfield 13, 3) := by decide +kernel
theorem dX5_layer_22 : decode cX5_layer 22 = .ok (.aload_n 0, 1) := by decide +kernel
theorem dX5_layer_23 : decode cX5_layer 23 = .ok (.getfield 52, 3) := by decide +kernel
theorem dX5_layer_26 : decode cX5_layer 26 = .ok (.iaload, 1) := by decide +kernel
theorem dX5_layer_27 : decode cX5_layer 27 = .ok (.if_icmp .lt 8, 3) := by decide +kernel
theorem dX5_layer_30 : decode cX5_layer 30 = .ok (.bipush (-102), 2) := by decide +kernel
theorem dX5_layer_32 : decode cX5_layer 32 = .ok (.goto 9, 3) := by decide +kernel
theorem dX5_layer_35 : decode cX5_layer 35 = .ok (.aload_n 0, 1) := by decide +kernel
theorem dX5_layer_36 : decode cX5_layer 36 = .ok (.getfield 56, 3) := by decide +kernel
theorem dX5_layer_39 : decode cX5_layer 39 = .ok (.iload_n 1, 1) := by decide +kernel
theorem dX5_layer_40 : decode cX5_layer 40 = .ok (.iaload, 1) := by decide +kernel
theorem dX5_layer_41 : decode cX5_layer 41 = .ok (.ireturn, 1) := by decide +kernel
theorem dX5_turned_0 : decode cX5_turned 0 = .ok (.aload_n 0, 1) := by decide +kernel
theorem dX5_turned_1 : decode cX5_turned 1 = .ok (.getfield 52, 3) := by decide +kernel
theorem dX5_turned_4 : decode cX5_turned 4 = .ok (.iconst (-1), 1) := by decide +kernel
theorem dX5_turned_5 : decode cX5_turned 5 = .ok (.if_icmp .ne 6, 3) := by decide +kernel
theorem dX5_turned_8 : decode cX5_turned 8 = .ok (.bipush (-103), 2) := by decide +kernel
theorem dX5_turned_10 : decode cX5_turned 10 = .ok (.ireturn, 1) := by decide +kernel
theorem dX5_turned_11 : decode cX5_turned 11 = .ok (.aload_n 0, 1) := by decide +kernel
theorem dX5_turned_12 : decode cX5_turned 12 = .ok (.aload_n 0, 1) := by decide +kernel
theorem dX5_turned_13 : decode cX5_turned 13 = .ok (.getfield 52, 3) := by decide +kernel
theorem dX5_turned_16 : decode cX5_turned 16 = .ok (.iload_n 1, 1) := by decide +kernel
theorem dX5_turned_17 : decode cX5_turned 17 = .ok (.invokevirtual 101, 3) := by decide +kernel
theorem dX5_turned_20 : decode cX5_turned 20 = .ok (.ifCond .ne 6, 3) := by decide +kernel
theorem dX5_turned_23 : decode cX5_turned 23 = .ok (.bipush (-101), 2) := by decide +kernel
theorem dX5_turned_25 : decode cX5_turned 25 = .ok (.ireturn, 1) := by decide +kernel
theorem dX5_turned_26 : decode cX5_turned 26 = .ok (.aload_n 0, 1) := by decide +kernel
theorem dX5_turned_27 : decode cX5_turned 27 = .ok (.aload_n 0, 1) := by decide +kernel
theorem dX5_turned_28 : decode cX5_turned 28 = .ok (.getfield 52, 3) := by decide +kernel
theorem dX5_turned_31 : decode cX5_turned 31 = .ok (.putfield 117, 3) := by decide +kernel
theorem dX5_turned_34 : decode cX5_turned 34 = .ok (.iconst 0, 1) := by decide +kernel
theorem dX5_turned_35 : decode cX5_turned 35 = .ok (.istore_n 2, 1) := by decide +kernel
theorem dX5_turned_36 : decode cX5_turned 36 = .ok (.iload_n 2, 1) := by decide +kernel
theorem dX5_turned_37 : decode cX5_turned 37 = .ok (.aload_n 0, 1) := by decide +kernel
theorem dX5_turned_38 : decode cX5_turned 38 = .ok (.getfield 13, 3) := by decide +kernel
theorem dX5_turned_41 : decode cX5_turned 41 = .ok (.aload_n 0, 1) := by decide +kernel
theorem dX5_turned_42 : decode cX5_turned 42 = .ok (.getfield 117, 3) := by decide +kernel
theorem dX5_turned_45 : decode cX5_turned 45 = .ok (.iaload, 1) := by decide +kernel
theorem dX5_turned_46 : decode cX5_turned 46 = .ok (.if_icmp .ge 21, 3) := by decide +kernel
theorem dX5_turned_49 : decode cX5_turned 49 = .ok (.aload_n 0, 1) := by decide +kernel
theorem dX5_turned_50 : decode cX5_turned 50 = .ok (.getfield 46, 3) := by decide +kernel
theorem dX5_turned_53 : decode cX5_turned 53 = .ok (.aload_n 0, 1) := by decide +kernel
theorem dX5_turned_54 : decode cX5_turned 54 = .ok (.getfield 56, 3) := by decide +kernel
theorem dX5_turned_57 : decode cX5_turned 57 = .ok (.iload_n 2, 1) := by decide +kernel
theorem dX5_turned_58 : decode cX5_turned 58 = .ok (.iaload, 1) := by decide +kernel
theorem dX5_turned_59 : decode cX5_turned 59 = .ok (.iload_n 2, 1) := by decide +kernel
theorem dX5_turned_60 : decode cX5_turned 60 = .ok (.iastore, 1) := by decide +kernel
theorem dX5_turned_61 : decode cX5_turned 61 = .ok (.iinc 2 1, 3) := by decide +kernel
theorem dX5_turned_64 : decode cX5_turned 64 = .ok (.goto (-28), 3) := by decide +kernel
theorem dX5_turned_67 : decode cX5_turned 67 = .ok (.aload_n 0, 1) := by decide +kernel
theorem dX5_turned_68 : decode cX5_turned 68 = .ok (.iload_n 1, 1) := by decide +kernel
theorem dX5_turned_69 : decode cX5_turned 69 = .ok (.invokevirtual 143, 3) := by decide +kernel
theorem dX5_turned_72 : decode cX5_turned 72 = .ok (.ireturn, 1) := by decide +kernel
theorem dX5_orders_0 : decode cX5_orders 0 = .ok (.aload_n 0, 1) := by decide +kernel
theorem dX5_orders_1 : decode cX5_orders 1 = .ok (.iload_n 1, 1) := by decide +kernel
theorem dX5_orders_2 : decode cX5_orders 2 = .ok (.invokevirtual 85, 3) := by decide +kernel
theorem dX5_orders_5 : decode cX5_orders 5 = .ok (.ifCond .ne 6, 3) := by decide +kernel
theorem dX5_orders_8 : decode cX5_orders 8 = .ok (.bipush (-101), 2) := by decide +kernel
theorem dX5_orders_10 : decode cX5_orders 10 = .ok (.ireturn, 1) := by decide +kernel
theorem dX5_orders_11 : decode cX5_orders 11 = .ok (.aload_n 0, 1) := by decide +kernel
theorem dX5_orders_12 : decode cX5_orders 12 = .ok (.iload_n 1, 1) := by decide +kernel
theorem dX5_orders_13 : decode cX5_orders 13 = .ok (.invokevirtual 157, 3) := by decide +kernel
theorem dX5_orders_16 : decode cX5_orders 16 = .ok (.iconst 0, 1) := by decide +kernel
theorem dX5_orders_17 : decode cX5_orders 17 = .ok (.istore_n 2, 1) := by decide +kernel
theorem dX5_orders_18 : decode cX5_orders 18 = .ok (.aload_n 0, 1) := by decide +kernel
theorem dX5_orders_19 : decode cX5_orders 19 = .ok (.invokevirtual 161, 3) := by decide +kernel
theorem dX5_orders_22 : decode cX5_orders 22 = .ok (.ifCond .eq 9, 3) := by decide +kernel
theorem dX5_orders_25 : decode cX5_orders 25 = .ok (.iinc 2 1, 3) := by decide +kernel
theorem dX5_orders_28 : decode cX5_orders 28 = .ok (.goto (-10), 3) := by decide +kernel
theorem dX5_orders_31 : decode cX5_orders 31 = .ok (.iload_n 2, 1) := by decide +kernel
theorem dX5_orders_32 : decode cX5_orders 32 = .ok (.ireturn, 1) := by decide +kernel
theorem dX5_order_0 : decode cX5_order 0 = .ok (.aload_n 0, 1) := by decide +kernel
theorem dX5_order_1 : decode cX5_order 1 = .ok (.iload_n 1, 1) := by decide +kernel
theorem dX5_order_2 : decode cX5_order 2 = .ok (.invokevirtual 85, 3) := by decide +kernel
theorem dX5_order_5 : decode cX5_order 5 = .ok (.ifCond .ne 7, 3) := by decide +kernel
theorem dX5_order_8 : decode cX5_order 8 = .ok (.ldc2_w 165, 3) := by decide +kernel
theorem dX5_order_11 : decode cX5_order 11 = .ok (.lreturn, 1) := by decide +kernel
theorem dX5_order_12 : decode cX5_order 12 = .ok (.aload_n 0, 1) := by decide +kernel
theorem dX5_order_13 : decode cX5_order 13 = .ok (.iload_n 1, 1) := by decide +kernel
theorem dX5_order_14 : decode cX5_order 14 = .ok (.invokevirtual 157, 3) := by decide +kernel
theorem dX5_order_17 : decode cX5_order 17 = .ok (.iconst 0, 1) := by decide +kernel
theorem dX5_order_18 : decode cX5_order 18 = .ok (.istore_n 3, 1) := by decide +kernel
theorem dX5_order_19 : decode cX5_order 19 = .ok (.iload_n 2, 1) := by decide +kernel
theorem dX5_order_20 : decode cX5_order 20 = .ok (.ifCond .lt 26, 3) := by decide +kernel
theorem dX5_order_23 : decode cX5_order 23 = .ok (.aload_n 0, 1) := by decide +kernel
theorem dX5_order_24 : decode cX5_order 24 = .ok (.invokevirtual 161, 3) := by decide +kernel
theorem dX5_order_27 : decode cX5_order 27 = .ok (.ifCond .eq 19, 3) := by decide +kernel
theorem dX5_order_30 : decode cX5_order 30 = .ok (.iload_n 3, 1) := by decide +kernel
theorem dX5_order_31 : decode cX5_order 31 = .ok (.iload_n 2, 1) := by decide +kernel
theorem dX5_order_32 : decode cX5_order 32 = .ok (.if_icmp .ne 8, 3) := by decide +kernel
theorem dX5_order_35 : decode cX5_order 35 = .ok (.aload_n 0, 1) := by decide +kernel
theorem dX5_order_36 : decode cX5_order 36 = .ok (.invokevirtual 167, 3) := by decide +kernel
theorem dX5_order_39 : decode cX5_order 39 = .ok (.lreturn, 1) := by decide +kernel
theorem dX5_order_40 : decode cX5_order 40 = .ok (.iinc 3 1, 3) := by decide +kernel
theorem dX5_order_43 : decode cX5_order 43 = .ok (.goto (-24), 3) := by decide +kernel
theorem dX5_order_46 : decode cX5_order 46 = .ok (.ldc2_w 171, 3) := by decide +kernel
theorem dX5_order_49 : decode cX5_order 49 = .ok (.lreturn, 1) := by decide +kernel
theorem dX5_check_0 : decode cX5_check 0 = .ok (.aload_n 0, 1) := by decide +kernel
theorem dX5_check_1 : decode cX5_check 1 = .ok (.iload_n 1, 1) := by decide +kernel
theorem dX5_check_2 : decode cX5_check 2 = .ok (.invokevirtual 85, 3) := by decide +kernel
theorem dX5_check_5 : decode cX5_check 5 = .ok (.ifCond .ne 6, 3) := by decide +kernel
theorem dX5_check_8 : decode cX5_check 8 = .ok (.bipush (-101), 2) := by decide +kernel
theorem dX5_check_10 : decode cX5_check 10 = .ok (.ireturn, 1) := by decide +kernel
theorem dX5_check_11 : decode cX5_check 11 = .ok (.aload_n 0, 1) := by decide +kernel
theorem dX5_check_12 : decode cX5_check 12 = .ok (.iload_n 1, 1) := by decide +kernel
theorem dX5_check_13 : decode cX5_check 13 = .ok (.invokevirtual 157, 3) := by decide +kernel
theorem dX5_check_16 : decode cX5_check 16 = .ok (.lload_n 2, 1) := by decide +kernel
theorem dX5_check_17 : decode cX5_check 17 = .ok (.lstore 4, 2) := by decide +kernel
theorem dX5_check_19 : decode cX5_check 19 = .ok (.iconst 0, 1) := by decide +kernel
theorem dX5_check_20 : decode cX5_check 20 = .ok (.istore 6, 2) := by decide +kernel
theorem dX5_check_22 : decode cX5_check 22 = .ok (.iload 6, 2) := by decide +kernel
theorem dX5_check_24 : decode cX5_check 24 = .ok (.aload_n 0, 1) := by decide +kernel
theorem dX5_check_25 : decode cX5_check 25 = .ok (.getfield 13, 3) := by decide +kernel
theorem dX5_check_28 : decode cX5_check 28 = .ok (.iload_n 1, 1) := by decide +kernel
theorem dX5_check_29 : decode cX5_check 29 = .ok (.iaload, 1) := by decide +kernel
theorem dX5_check_30 : decode cX5_check 30 = .ok (.if_icmp .ge 67, 3) := by decide +kernel
theorem dX5_check_33 : decode cX5_check 33 = .ok (.lload 4, 2) := by decide +kernel
theorem dX5_check_35 : decode cX5_check 35 = .ok (.ldc2_w 155, 3) := by decide +kernel
theorem dX5_check_38 : decode cX5_check 38 = .ok (.lrem, 1) := by decide +kernel
theorem dX5_check_39 : decode cX5_check 39 = .ok (.l2i, 1) := by decide +kernel
theorem dX5_check_40 : decode cX5_check 40 = .ok (.istore 7, 2) := by decide +kernel
theorem dX5_check_42 : decode cX5_check 42 = .ok (.lload 4, 2) := by decide +kernel
theorem dX5_check_44 : decode cX5_check 44 = .ok (.lconst 0, 1) := by decide +kernel
theorem dX5_check_45 : decode cX5_check 45 = .ok (.lcmp, 1) := by decide +kernel
theorem dX5_check_46 : decode cX5_check 46 = .ok (.ifCond .lt 25, 3) := by decide +kernel
theorem dX5_check_49 : decode cX5_check 49 = .ok (.iload 7, 2) := by decide +kernel
theorem dX5_check_51 : decode cX5_check 51 = .ok (.aload_n 0, 1) := by decide +kernel
theorem dX5_check_52 : decode cX5_check 52 = .ok (.getfield 13, 3) := by decide +kernel
theorem dX5_check_55 : decode cX5_check 55 = .ok (.iload_n 1, 1) := by decide +kernel
theorem dX5_check_56 : decode cX5_check 56 = .ok (.iaload, 1) := by decide +kernel
theorem dX5_check_57 : decode cX5_check 57 = .ok (.if_icmp .ge 14, 3) := by decide +kernel
theorem dX5_check_60 : decode cX5_check 60 = .ok (.aload_n 0, 1) := by decide +kernel
theorem dX5_check_61 : decode cX5_check 61 = .ok (.getfield 46, 3) := by decide +kernel
theorem dX5_check_64 : decode cX5_check 64 = .ok (.iload 7, 2) := by decide +kernel
theorem dX5_check_66 : decode cX5_check 66 = .ok (.iaload, 1) := by decide +kernel
theorem dX5_check_67 : decode cX5_check 67 = .ok (.iconst (-1), 1) := by decide +kernel
theorem dX5_check_68 : decode cX5_check 68 = .ok (.if_icmp .eq 6, 3) := by decide +kernel
theorem dX5_check_71 : decode cX5_check 71 = .ok (.bipush (-102), 2) := by decide +kernel
theorem dX5_check_73 : decode cX5_check 73 = .ok (.ireturn, 1) := by decide +kernel
theorem dX5_check_74 : decode cX5_check 74 = .ok (.aload_n 0, 1) := by decide +kernel
theorem dX5_check_75 : decode cX5_check 75 = .ok (.getfield 46, 3) := by decide +kernel
theorem dX5_check_78 : decode cX5_check 78 = .ok (.iload 7, 2) := by decide +kernel
theorem dX5_check_80 : decode cX5_check 80 = .ok (.iload 6, 2) := by decide +kernel
theorem dX5_check_82 : decode cX5_check 82 = .ok (.iastore, 1) := by decide +kernel
theorem dX5_check_83 : decode cX5_check 83 = .ok (.lload 4, 2) := by decide +kernel
theorem dX5_check_85 : decode cX5_check 85 = .ok (.ldc2_w 155, 3) := by decide +kernel
theorem dX5_check_88 : decode cX5_check 88 = .ok (.ldiv, 1) := by decide +kernel
theorem dX5_check_89 : decode cX5_check 89 = .ok (.lstore 4, 2) := by decide +kernel
theorem dX5_check_91 : decode cX5_check 91 = .ok (.iinc 6 1, 3) := by decide +kernel
theorem dX5_check_94 : decode cX5_check 94 = .ok (.goto (-72), 3) := by decide +kernel
theorem dX5_check_97 : decode cX5_check 97 = .ok (.lload 4, 2) := by decide +kernel
theorem dX5_check_99 : decode cX5_check 99 = .ok (.lconst 0, 1) := by decide +kernel
theorem dX5_check_100 : decode cX5_check 100 = .ok (.lcmp, 1) := by decide +kernel
theorem dX5_check_101 : decode cX5_check 101 = .ok (.ifCond .eq 6, 3) := by decide +kernel
theorem dX5_check_104 : decode cX5_check 104 = .ok (.bipush (-102), 2) := by decide +kernel
theorem dX5_check_106 : decode cX5_check 106 = .ok (.ireturn, 1) := by decide +kernel
theorem dX5_check_107 : decode cX5_check 107 = .ok (.aload_n 0, 1) := by decide +kernel
theorem dX5_check_108 : decode cX5_check 108 = .ok (.getfield 7, 3) := by decide +kernel
theorem dX5_check_111 : decode cX5_check 111 = .ok (.iload_n 1, 1) := by decide +kernel
theorem dX5_check_112 : decode cX5_check 112 = .ok (.iaload, 1) := by decide +kernel
theorem dX5_check_113 : decode cX5_check 113 = .ok (.iconst 1, 1) := by decide +kernel
theorem dX5_check_114 : decode cX5_check 114 = .ok (.if_icmp .ne 26, 3) := by decide +kernel
theorem dX5_check_117 : decode cX5_check 117 = .ok (.aload_n 0, 1) := by decide +kernel
theorem dX5_check_118 : decode cX5_check 118 = .ok (.getfield 13, 3) := by decide +kernel
theorem dX5_check_121 : decode cX5_check 121 = .ok (.iload_n 1, 1) := by decide +kernel
theorem dX5_check_122 : decode cX5_check 122 = .ok (.iaload, 1) := by decide +kernel
theorem dX5_check_123 : decode cX5_check 123 = .ok (.iconst 2, 1) := by decide +kernel
theorem dX5_check_124 : decode cX5_check 124 = .ok (.irem, 1) := by decide +kernel
theorem dX5_check_125 : decode cX5_check 125 = .ok (.iconst 1, 1) := by decide +kernel
theorem dX5_check_126 : decode cX5_check 126 = .ok (.if_icmp .eq 11, 3) := by decide +kernel
theorem dX5_check_129 : decode cX5_check 129 = .ok (.aload_n 0, 1) := by decide +kernel
theorem dX5_check_130 : decode cX5_check 130 = .ok (.iload_n 1, 1) := by decide +kernel
theorem dX5_check_131 : decode cX5_check 131 = .ok (.invokevirtual 107, 3) := by decide +kernel
theorem dX5_check_134 : decode cX5_check 134 = .ok (.ifCond .eq 6, 3) := by decide +kernel
theorem dX5_check_137 : decode cX5_check 137 = .ok (.ldc 173, 2) := by decide +kernel
theorem dX5_check_139 : decode cX5_check 139 = .ok (.ireturn, 1) := by decide +kernel
theorem dX5_check_140 : decode cX5_check 140 = .ok (.iconst 0, 1) := by decide +kernel
theorem dX5_check_141 : decode cX5_check 141 = .ok (.istore 6, 2) := by decide +kernel
theorem dX5_check_143 : decode cX5_check 143 = .ok (.iload 6, 2) := by decide +kernel
theorem dX5_check_145 : decode cX5_check 145 = .ok (.aload_n 0, 1) := by decide +kernel
theorem dX5_check_146 : decode cX5_check 146 = .ok (.getfield 22, 3) := by decide +kernel
theorem dX5_check_149 : decode cX5_check 149 = .ok (.iload_n 1, 1) := by decide +kernel
theorem dX5_check_150 : decode cX5_check 150 = .ok (.iaload, 1) := by decide +kernel
theorem dX5_check_151 : decode cX5_check 151 = .ok (.if_icmp .ge 49, 3) := by decide +kernel
theorem dX5_check_154 : decode cX5_check 154 = .ok (.aload_n 0, 1) := by decide +kernel
theorem dX5_check_155 : decode cX5_check 155 = .ok (.getfield 34, 3) := by decide +kernel
theorem dX5_check_158 : decode cX5_check 158 = .ok (.bipush 12, 2) := by decide +kernel
theorem dX5_check_160 : decode cX5_check 160 = .ok (.iload_n 1, 1) := by decide +kernel
theorem dX5_check_161 : decode cX5_check 161 = .ok (.imul, 1) := by decide +kernel
theorem dX5_check_162 : decode cX5_check 162 = .ok (.iload 6, 2) := by decide +kernel
theorem dX5_check_164 : decode cX5_check 164 = .ok (.iadd, 1) := by decide +kernel
theorem dX5_check_165 : decode cX5_check 165 = .ok (.iaload, 1) := by decide +kernel
theorem dX5_check_166 : decode cX5_check 166 = .ok (.istore 7, 2) := by decide +kernel
theorem dX5_check_168 : decode cX5_check 168 = .ok (.iload 7, 2) := by decide +kernel
theorem dX5_check_170 : decode cX5_check 170 = .ok (.ifCond .eq 24, 3) := by decide +kernel
theorem dX5_check_173 : decode cX5_check 173 = .ok (.iload 7, 2) := by decide +kernel
theorem dX5_check_175 : decode cX5_check 175 = .ok (.aload_n 0, 1) := by decide +kernel
theorem dX5_check_176 : decode cX5_check 176 = .ok (.iload 6, 2) := by decide +kernel
theorem dX5_check_178 : decode cX5_check 178 = .ok (.invokevirtual 143, 3) := by decide +kernel
theorem dX5_check_181 : decode cX5_check 181 = .ok (.if_icmp .eq 13, 3) := by decide +kernel
theorem dX5_check_184 : decode cX5_check 184 = .ok (.sipush 10000, 3) := by decide +kernel
theorem dX5_check_187 : decode cX5_check 187 = .ok (.bipush 100, 2) := by decide +kernel
theorem dX5_check_189 : decode cX5_check 189 = .ok (.iload 6, 2) := by decide +kernel
theorem dX5_check_191 : decode cX5_check 191 = .ok (.imul, 1) := by decide +kernel
theorem dX5_check_192 : decode cX5_check 192 = .ok (.iadd, 1) := by decide +kernel
theorem dX5_check_193 : decode cX5_check 193 = .ok (.ireturn, 1) := by decide +kernel
theorem dX5_check_194 : decode cX5_check 194 = .ok (.iinc 6 1, 3) := by decide +kernel
theorem dX5_check_197 : decode cX5_check 197 = .ok (.goto (-54), 3) := by decide +kernel
theorem dX5_check_200 : decode cX5_check 200 = .ok (.iconst 0, 1) := by decide +kernel
theorem dX5_check_201 : decode cX5_check 201 = .ok (.istore 6, 2) := by decide +kernel
theorem dX5_check_203 : decode cX5_check 203 = .ok (.iload 6, 2) := by decide +kernel
theorem dX5_check_205 : decode cX5_check 205 = .ok (.aload_n 0, 1) := by decide +kernel
theorem dX5_check_206 : decode cX5_check 206 = .ok (.getfield 22, 3) := by decide +kernel
theorem dX5_check_209 : decode cX5_check 209 = .ok (.iload_n 1, 1) := by decide +kernel
theorem dX5_check_210 : decode cX5_check 210 = .ok (.iaload, 1) := by decide +kernel
theorem dX5_check_211 : decode cX5_check 211 = .ok (.if_icmp .ge 103, 3) := by decide +kernel
theorem dX5_check_214 : decode cX5_check 214 = .ok (.iconst 0, 1) := by decide +kernel
theorem dX5_check_215 : decode cX5_check 215 = .ok (.istore 7, 2) := by decide +kernel
theorem dX5_check_217 : decode cX5_check 217 = .ok (.iload 7, 2) := by decide +kernel
theorem dX5_check_219 : decode cX5_check 219 = .ok (.aload_n 0, 1) := by decide +kernel
theorem dX5_check_220 : decode cX5_check 220 = .ok (.getfield 13, 3) := by decide +kernel
theorem dX5_check_223 : decode cX5_check 223 = .ok (.iload_n 1, 1) := by decide +kernel
theorem dX5_check_224 : decode cX5_check 224 = .ok (.iaload, 1) := by decide +kernel
theorem dX5_check_225 : decode cX5_check 225 = .ok (.if_icmp .ge 83, 3) := by decide +kernel
theorem dX5_check_228 : decode cX5_check 228 = .ok (.iload 7, 2) := by decide +kernel
theorem dX5_check_230 : decode cX5_check 230 = .ok (.aload_n 0, 1) := by decide +kernel
theorem dX5_check_231 : decode cX5_check 231 = .ok (.getfield 28, 3) := by decide +kernel
theorem dX5_check_234 : decode cX5_check 234 = .ok (.bipush 12, 2) := by decide +kernel
theorem dX5_check_236 : decode cX5_check 236 = .ok (.iload_n 1, 1) := by decide +kernel
theorem dX5_check_237 : decode cX5_check 237 = .ok (.imul, 1) := by decide +kernel
theorem dX5_check_238 : decode cX5_check 238 = .ok (.iload 6, 2) := by decide +kernel
theorem dX5_check_240 : decode cX5_check 240 = .ok (.iadd, 1) := by decide +kernel
theorem dX5_check_241 : decode cX5_check 241 = .ok (.iaload, 1) := by decide +kernel
theorem dX5_check_242 : decode cX5_check 242 = .ok (.if_icmp .eq 60, 3) := by decide +kernel
theorem dX5_check_245 : decode cX5_check 245 = .ok (.iload 7, 2) := by decide +kernel
theorem dX5_check_247 : decode cX5_check 247 = .ok (.aload_n 0, 1) := by decide +kernel
theorem dX5_check_248 : decode cX5_check 248 = .ok (.getfield 31, 3) := by decide +kernel
theorem dX5_check_251 : decode cX5_check 251 = .ok (.bipush 12, 2) := by decide +kernel
theorem dX5_check_253 : decode cX5_check 253 = .ok (.iload_n 1, 1) := by decide +kernel
theorem dX5_check_254 : decode cX5_check 254 = .ok (.imul, 1) := by decide +kernel
theorem dX5_check_255 : decode cX5_check 255 = .ok (.iload 6, 2) := by decide +kernel
theorem dX5_check_257 : decode cX5_check 257 = .ok (.iadd, 1) := by decide +kernel
theorem dX5_check_258 : decode cX5_check 258 = .ok (.iaload, 1) := by decide +kernel
theorem dX5_check_259 : decode cX5_check 259 = .ok (.if_icmp .eq 43, 3) := by decide +kernel
theorem dX5_check_262 : decode cX5_check 262 = .ok (.aload_n 0, 1) := by decide +kernel
theorem dX5_check_263 : decode cX5_check 263 = .ok (.iload 6, 2) := by decide +kernel
theorem dX5_check_265 : decode cX5_check 265 = .ok (.iload 7, 2) := by decide +kernel
theorem dX5_check_267 : decode cX5_check 267 = .ok (.invokevirtual 174, 3) := by decide +kernel
theorem dX5_check_270 : decode cX5_check 270 = .ok (.ifCond .eq 32, 3) := by decide +kernel
theorem dX5_check_273 : decode cX5_check 273 = .ok (.aload_n 0, 1) := by decide +kernel
theorem dX5_check_274 : decode cX5_check 274 = .ok (.iload 7, 2) := by decide +kernel
theorem dX5_check_276 : decode cX5_check 276 = .ok (.aload_n 0, 1) := by decide +kernel
theorem dX5_check_277 : decode cX5_check 277 = .ok (.getfield 49, 3) := by decide +kernel
theorem dX5_check_280 : decode cX5_check 280 = .ok (.iload 6, 2) := by decide +kernel
theorem dX5_check_282 : decode cX5_check 282 = .ok (.iaload, 1) := by decide +kernel
theorem dX5_check_283 : decode cX5_check 283 = .ok (.invokevirtual 140, 3) := by decide +kernel
theorem dX5_check_286 : decode cX5_check 286 = .ok (.ifCond .eq 16, 3) := by decide +kernel
theorem dX5_check_289 : decode cX5_check 289 = .ok (.sipush 20000, 3) := by decide +kernel
theorem dX5_check_292 : decode cX5_check 292 = .ok (.bipush 100, 2) := by decide +kernel
theorem dX5_check_294 : decode cX5_check 294 = .ok (.iload 6, 2) := by decide +kernel
theorem dX5_check_296 : decode cX5_check 296 = .ok (.imul, 1) := by decide +kernel
theorem dX5_check_297 : decode cX5_check 297 = .ok (.iadd, 1) := by decide +kernel
theorem dX5_check_298 : decode cX5_check 298 = .ok (.iload 7, 2) := by decide +kernel
theorem dX5_check_300 : decode cX5_check 300 = .ok (.iadd, 1) := by decide +kernel
theorem dX5_check_301 : decode cX5_check 301 = .ok (.ireturn, 1) := by decide +kernel
theorem dX5_check_302 : decode cX5_check 302 = .ok (.iinc 7 1, 3) := by decide +kernel
theorem dX5_check_305 : decode cX5_check 305 = .ok (.goto (-88), 3) := by decide +kernel
theorem dX5_check_308 : decode cX5_check 308 = .ok (.iinc 6 1, 3) := by decide +kernel
theorem dX5_check_311 : decode cX5_check 311 = .ok (.goto (-108), 3) := by decide +kernel
theorem dX5_check_314 : decode cX5_check 314 = .ok (.iconst 0, 1) := by decide +kernel
theorem dX5_check_315 : decode cX5_check 315 = .ok (.istore 6, 2) := by decide +kernel
theorem dX5_check_317 : decode cX5_check 317 = .ok (.iload 6, 2) := by decide +kernel
theorem dX5_check_319 : decode cX5_check 319 = .ok (.aload_n 0, 1) := by decide +kernel
theorem dX5_check_320 : decode cX5_check 320 = .ok (.getfield 22, 3) := by decide +kernel
theorem dX5_check_323 : decode cX5_check 323 = .ok (.iload_n 1, 1) := by decide +kernel
theorem dX5_check_324 : decode cX5_check 324 = .ok (.iaload, 1) := by decide +kernel
theorem dX5_check_325 : decode cX5_check 325 = .ok (.if_icmp .ge 106, 3) := by decide +kernel
theorem dX5_check_328 : decode cX5_check 328 = .ok (.iload 6, 2) := by decide +kernel
theorem dX5_check_330 : decode cX5_check 330 = .ok (.iconst 1, 1) := by decide +kernel
theorem dX5_check_331 : decode cX5_check 331 = .ok (.iadd, 1) := by decide +kernel
theorem dX5_check_332 : decode cX5_check 332 = .ok (.istore 7, 2) := by decide +kernel
theorem dX5_check_334 : decode cX5_check 334 = .ok (.iload 7, 2) := by decide +kernel
theorem dX5_check_336 : decode cX5_check 336 = .ok (.aload_n 0, 1) := by decide +kernel
theorem dX5_check_337 : decode cX5_check 337 = .ok (.getfield 22, 3) := by decide +kernel
theorem dX5_check_340 : decode cX5_check 340 = .ok (.iload_n 1, 1) := by decide +kernel
theorem dX5_check_341 : decode cX5_check 341 = .ok (.iaload, 1) := by decide +kernel
theorem dX5_check_342 : decode cX5_check 342 = .ok (.if_icmp .ge 83, 3) := by decide +kernel
theorem dX5_check_345 : decode cX5_check 345 = .ok (.aload_n 0, 1) := by decide +kernel
theorem dX5_check_346 : decode cX5_check 346 = .ok (.iload 6, 2) := by decide +kernel
theorem dX5_check_348 : decode cX5_check 348 = .ok (.iload 7, 2) := by decide +kernel
theorem dX5_check_350 : decode cX5_check 350 = .ok (.invokevirtual 146, 3) := by decide +kernel
theorem dX5_check_353 : decode cX5_check 353 = .ok (.ifCond .eq 66, 3) := by decide +kernel
theorem dX5_check_356 : decode cX5_check 356 = .ok (.aload_n 0, 1) := by decide +kernel
theorem dX5_check_357 : decode cX5_check 357 = .ok (.iload 6, 2) := by decide +kernel
theorem dX5_check_359 : decode cX5_check 359 = .ok (.iload 7, 2) := by decide +kernel
theorem dX5_check_361 : decode cX5_check 361 = .ok (.invokevirtual 149, 3) := by decide +kernel
theorem dX5_check_364 : decode cX5_check 364 = .ok (.ifCond .eq 55, 3) := by decide +kernel
theorem dX5_check_367 : decode cX5_check 367 = .ok (.aload_n 0, 1) := by decide +kernel
theorem dX5_check_368 : decode cX5_check 368 = .ok (.iload 6, 2) := by decide +kernel
theorem dX5_check_370 : decode cX5_check 370 = .ok (.aload_n 0, 1) := by decide +kernel
theorem dX5_check_371 : decode cX5_check 371 = .ok (.getfield 28, 3) := by decide +kernel
theorem dX5_check_374 : decode cX5_check 374 = .ok (.bipush 12, 2) := by decide +kernel
theorem dX5_check_376 : decode cX5_check 376 = .ok (.iload_n 1, 1) := by decide +kernel
theorem dX5_check_377 : decode cX5_check 377 = .ok (.imul, 1) := by decide +kernel
theorem dX5_check_378 : decode cX5_check 378 = .ok (.iload 7, 2) := by decide +kernel
theorem dX5_check_380 : decode cX5_check 380 = .ok (.iadd, 1) := by decide +kernel
theorem dX5_check_381 : decode cX5_check 381 = .ok (.iaload, 1) := by decide +kernel
theorem dX5_check_382 : decode cX5_check 382 = .ok (.invokevirtual 174, 3) := by decide +kernel
theorem dX5_check_385 : decode cX5_check 385 = .ok (.aload_n 0, 1) := by decide +kernel
theorem dX5_check_386 : decode cX5_check 386 = .ok (.iload 6, 2) := by decide +kernel
theorem dX5_check_388 : decode cX5_check 388 = .ok (.aload_n 0, 1) := by decide +kernel
theorem dX5_check_389 : decode cX5_check 389 = .ok (.getfield 31, 3) := by decide +kernel
theorem dX5_check_392 : decode cX5_check 392 = .ok (.bipush 12, 2) := by decide +kernel
theorem dX5_check_394 : decode cX5_check 394 = .ok (.iload_n 1, 1) := by decide +kernel
theorem dX5_check_395 : decode cX5_check 395 = .ok (.imul, 1) := by decide +kernel
theorem dX5_check_396 : decode cX5_check 396 = .ok (.iload 7, 2) := by decide +kernel
theorem dX5_check_398 : decode cX5_check 398 = .ok (.iadd, 1) := by decide +kernel
theorem dX5_check_399 : decode cX5_check 399 = .ok (.iaload, 1) := by decide +kernel
theorem dX5_check_400 : decode cX5_check 400 = .ok (.invokevirtual 174, 3) := by decide +kernel
theorem dX5_check_403 : decode cX5_check 403 = .ok (.if_icmp .eq 16, 3) := by decide +kernel
theorem dX5_check_406 : decode cX5_check 406 = .ok (.sipush 30000, 3) := by decide +kernel
theorem dX5_check_409 : decode cX5_check 409 = .ok (.bipush 100, 2) := by decide +kernel
theorem dX5_check_411 : decode cX5_check 411 = .ok (.iload 6, 2) := by decide +kernel
theorem dX5_check_413 : decode cX5_check 413 = .ok (.imul, 1) := by decide +kernel
theorem dX5_check_414 : decode cX5_check 414 = .ok (.iadd, 1) := by decide +kernel
theorem dX5_check_415 : decode cX5_check 415 = .ok (.iload 7, 2) := by decide +kernel
theorem dX5_check_417 : decode cX5_check 417 = .ok (.iadd, 1) := by decide +kernel
theorem dX5_check_418 : decode cX5_check 418 = .ok (.ireturn, 1) := by decide +kernel
theorem dX5_check_419 : decode cX5_check 419 = .ok (.iinc 7 1, 3) := by decide +kernel
theorem dX5_check_422 : decode cX5_check 422 = .ok (.goto (-88), 3) := by decide +kernel
theorem dX5_check_425 : decode cX5_check 425 = .ok (.iinc 6 1, 3) := by decide +kernel
theorem dX5_check_428 : decode cX5_check 428 = .ok (.goto (-111), 3) := by decide +kernel
theorem dX5_check_431 : decode cX5_check 431 = .ok (.iconst 0, 1) := by decide +kernel
theorem dX5_check_432 : decode cX5_check 432 = .ok (.ireturn, 1) := by decide +kernel
theorem dX5_isBetween_0 : decode cX5_isBetween 0 = .ok (.aload_n 0, 1) := by decide +kernel
theorem dX5_isBetween_1 : decode cX5_isBetween 1 = .ok (.getfield 46, 3) := by decide +kernel
theorem dX5_isBetween_4 : decode cX5_isBetween 4 = .ok (.aload_n 0, 1) := by decide +kernel
theorem dX5_isBetween_5 : decode cX5_isBetween 5 = .ok (.getfield 28, 3) := by decide +kernel
theorem dX5_isBetween_8 : decode cX5_isBetween 8 = .ok (.bipush 12, 2) := by decide +kernel
theorem dX5_isBetween_10 : decode cX5_isBetween 10 = .ok (.aload_n 0, 1) := by decide +kernel
theorem dX5_isBetween_11 : decode cX5_isBetween 11 = .ok (.getfield 117, 3) := by decide +kernel
theorem dX5_isBetween_14 : decode cX5_isBetween 14 = .ok (.imul, 1) := by decide +kernel
theorem dX5_isBetween_15 : decode cX5_isBetween 15 = .ok (.iload_n 1, 1) := by decide +kernel
theorem dX5_isBetween_16 : decode cX5_isBetween 16 = .ok (.iadd, 1) := by decide +kernel
theorem dX5_isBetween_17 : decode cX5_isBetween 17 = .ok (.iaload, 1) := by decide +kernel
theorem dX5_isBetween_18 : decode cX5_isBetween 18 = .ok (.iaload, 1) := by decide +kernel
theorem dX5_isBetween_19 : decode cX5_isBetween 19 = .ok (.istore_n 3, 1) := by decide +kernel
theorem dX5_isBetween_20 : decode cX5_isBetween 20 = .ok (.aload_n 0, 1) := by decide +kernel
theorem dX5_isBetween_21 : decode cX5_isBetween 21 = .ok (.getfield 46, 3) := by decide +kernel
theorem dX5_isBetween_24 : decode cX5_isBetween 24 = .ok (.aload_n 0, 1) := by decide +kernel
theorem dX5_isBetween_25 : decode cX5_isBetween 25 = .ok (.getfield 31, 3) := by decide +kernel
theorem dX5_isBetween_28 : decode cX5_isBetween 28 = .ok (.bipush 12, 2) := by decide +kernel
theorem dX5_isBetween_30 : decode cX5_isBetween 30 = .ok (.aload_n 0, 1) := by decide +kernel
theorem dX5_isBetween_31 : decode cX5_isBetween 31 = .ok (.getfield 117, 3) := by decide +kernel
theorem dX5_isBetween_34 : decode cX5_isBetween 34 = .ok (.imul, 1) := by decide +kernel
theorem dX5_isBetween_35 : decode cX5_isBetween 35 = .ok (.iload_n 1, 1) := by decide +kernel
theorem dX5_isBetween_36 : decode cX5_isBetween 36 = .ok (.iadd, 1) := by decide +kernel
theorem dX5_isBetween_37 : decode cX5_isBetween 37 = .ok (.iaload, 1) := by decide +kernel
theorem dX5_isBetween_38 : decode cX5_isBetween 38 = .ok (.iaload, 1) := by decide +kernel
theorem dX5_isBetween_39 : decode cX5_isBetween 39 = .ok (.istore 4, 2) := by decide +kernel
theorem dX5_isBetween_41 : decode cX5_isBetween 41 = .ok (.aload_n 0, 1) := by decide +kernel
theorem dX5_isBetween_42 : decode cX5_isBetween 42 = .ok (.getfield 46, 3) := by decide +kernel
theorem dX5_isBetween_45 : decode cX5_isBetween 45 = .ok (.iload_n 2, 1) := by decide +kernel
theorem dX5_isBetween_46 : decode cX5_isBetween 46 = .ok (.iaload, 1) := by decide +kernel
theorem dX5_isBetween_47 : decode cX5_isBetween 47 = .ok (.iload_n 3, 1) := by decide +kernel
theorem dX5_isBetween_48 : decode cX5_isBetween 48 = .ok (.iload 4, 2) := by decide +kernel
theorem dX5_isBetween_50 : decode cX5_isBetween 50 = .ok (.invokestatic 127, 3) := by decide +kernel
theorem dX5_isBetween_53 : decode cX5_isBetween 53 = .ok (.if_icmp .le 22, 3) := by decide +kernel
theorem dX5_isBetween_56 : decode cX5_isBetween 56 = .ok (.aload_n 0, 1) := by decide +kernel
theorem dX5_isBetween_57 : decode cX5_isBetween 57 = .ok (.getfield 46, 3) := by decide +kernel
theorem dX5_isBetween_60 : decode cX5_isBetween 60 = .ok (.iload_n 2, 1) := by decide +kernel
theorem dX5_isBetween_61 : decode cX5_isBetween 61 = .ok (.iaload, 1) := by decide +kernel
theorem dX5_isBetween_62 : decode cX5_isBetween 62 = .ok (.iload_n 3, 1) := by decide +kernel
theorem dX5_isBetween_63 : decode cX5_isBetween 63 = .ok (.iload 4, 2) := by decide +kernel
theorem dX5_isBetween_65 : decode cX5_isBetween 65 = .ok (.invokestatic 130, 3) := by decide +kernel
theorem dX5_isBetween_68 : decode cX5_isBetween 68 = .ok (.if_icmp .ge 7, 3) := by decide +kernel
theorem dX5_isBetween_71 : decode cX5_isBetween 71 = .ok (.iconst 1, 1) := by decide +kernel
theorem dX5_isBetween_72 : decode cX5_isBetween 72 = .ok (.goto 4, 3) := by decide +kernel
theorem dX5_isBetween_75 : decode cX5_isBetween 75 = .ok (.iconst 0, 1) := by decide +kernel
theorem dX5_isBetween_76 : decode cX5_isBetween 76 = .ok (.ireturn, 1) := by decide +kernel
theorem dX5_forced_0 : decode cX5_forced 0 = .ok (.aload_n 0, 1) := by decide +kernel
theorem dX5_forced_1 : decode cX5_forced 1 = .ok (.iload_n 1, 1) := by decide +kernel
theorem dX5_forced_2 : decode cX5_forced 2 = .ok (.iload_n 2, 1) := by decide +kernel
theorem dX5_forced_3 : decode cX5_forced 3 = .ok (.invokevirtual 101, 3) := by decide +kernel
theorem dX5_forced_6 : decode cX5_forced 6 = .ok (.ifCond .ne 6, 3) := by decide +kernel
theorem dX5_forced_9 : decode cX5_forced 9 = .ok (.bipush (-101), 2) := by decide +kernel
theorem dX5_forced_11 : decode cX5_forced 11 = .ok (.ireturn, 1) := by decide +kernel
theorem dX5_forced_12 : decode cX5_forced 12 = .ok (.aload_n 0, 1) := by decide +kernel
theorem dX5_forced_13 : decode cX5_forced 13 = .ok (.iload_n 1, 1) := by decide +kernel
theorem dX5_forced_14 : decode cX5_forced 14 = .ok (.invokevirtual 157, 3) := by decide +kernel
theorem dX5_forced_17 : decode cX5_forced 17 = .ok (.iconst 0, 1) := by decide +kernel
theorem dX5_forced_18 : decode cX5_forced 18 = .ok (.istore_n 3, 1) := by decide +kernel
theorem dX5_forced_19 : decode cX5_forced 19 = .ok (.iload_n 3, 1) := by decide +kernel
theorem dX5_forced_20 : decode cX5_forced 20 = .ok (.iconst 3, 1) := by decide +kernel
theorem dX5_forced_21 : decode cX5_forced 21 = .ok (.if_icmp .ge 21, 3) := by decide +kernel
theorem dX5_forced_24 : decode cX5_forced 24 = .ok (.aload_n 0, 1) := by decide +kernel
theorem dX5_forced_25 : decode cX5_forced 25 = .ok (.invokevirtual 161, 3) := by decide +kernel
theorem dX5_forced_28 : decode cX5_forced 28 = .ok (.ifCond .eq 14, 3) := by decide +kernel
theorem dX5_forced_31 : decode cX5_forced 31 = .ok (.iload_n 3, 1) := by decide +kernel
theorem dX5_forced_32 : decode cX5_forced 32 = .ok (.aload_n 0, 1) := by decide +kernel
theorem dX5_forced_33 : decode cX5_forced 33 = .ok (.iload_n 2, 1) := by decide +kernel
theorem dX5_forced_34 : decode cX5_forced 34 = .ok (.invokevirtual 143, 3) := by decide +kernel
theorem dX5_forced_37 : decode cX5_forced 37 = .ok (.ior, 1) := by decide +kernel
theorem dX5_forced_38 : decode cX5_forced 38 = .ok (.istore_n 3, 1) := by decide +kernel
theorem dX5_forced_39 : decode cX5_forced 39 = .ok (.goto (-20), 3) := by decide +kernel
theorem dX5_forced_42 : decode cX5_forced 42 = .ok (.iload_n 3, 1) := by decide +kernel
theorem dX5_forced_43 : decode cX5_forced 43 = .ok (.ireturn, 1) := by decide +kernel
theorem dX5_above_0 : decode cX5_above 0 = .ok (.aload_n 0, 1) := by decide +kernel
theorem dX5_above_1 : decode cX5_above 1 = .ok (.iload_n 1, 1) := by decide +kernel
theorem dX5_above_2 : decode cX5_above 2 = .ok (.iload_n 2, 1) := by decide +kernel
theorem dX5_above_3 : decode cX5_above 3 = .ok (.invokevirtual 97, 3) := by decide +kernel
theorem dX5_above_6 : decode cX5_above 6 = .ok (.ifCond .eq 12, 3) := by decide +kernel
theorem dX5_above_9 : decode cX5_above 9 = .ok (.aload_n 0, 1) := by decide +kernel
theorem dX5_above_10 : decode cX5_above 10 = .ok (.iload_n 1, 1) := by decide +kernel
theorem dX5_above_11 : decode cX5_above 11 = .ok (.iload_n 3, 1) := by decide +kernel
theorem dX5_above_12 : decode cX5_above 12 = .ok (.invokevirtual 97, 3) := by decide +kernel
theorem dX5_above_15 : decode cX5_above 15 = .ok (.ifCond .ne 6, 3) := by decide +kernel
theorem dX5_above_18 : decode cX5_above 18 = .ok (.bipush (-101), 2) := by decide +kernel
theorem dX5_above_20 : decode cX5_above 20 = .ok (.ireturn, 1) := by decide +kernel
theorem dX5_above_21 : decode cX5_above 21 = .ok (.iload_n 2, 1) := by decide +kernel
theorem dX5_above_22 : decode cX5_above 22 = .ok (.iload_n 3, 1) := by decide +kernel
theorem dX5_above_23 : decode cX5_above 23 = .ok (.if_icmp .ne 5, 3) := by decide +kernel
theorem dX5_above_26 : decode cX5_above 26 = .ok (.iconst 2, 1) := by decide +kernel
theorem dX5_above_27 : decode cX5_above 27 = .ok (.ireturn, 1) := by decide +kernel
theorem dX5_above_28 : decode cX5_above 28 = .ok (.aload_n 0, 1) := by decide +kernel
theorem dX5_above_29 : decode cX5_above 29 = .ok (.iload_n 1, 1) := by decide +kernel
theorem dX5_above_30 : decode cX5_above 30 = .ok (.invokevirtual 157, 3) := by decide +kernel
theorem dX5_above_33 : decode cX5_above 33 = .ok (.iconst 0, 1) := by decide +kernel
theorem dX5_above_34 : decode cX5_above 34 = .ok (.istore 4, 2) := by decide +kernel
theorem dX5_above_36 : decode cX5_above 36 = .ok (.iconst 0, 1) := by decide +kernel
theorem dX5_above_37 : decode cX5_above 37 = .ok (.istore 5, 2) := by decide +kernel
theorem dX5_above_39 : decode cX5_above 39 = .ok (.iload 4, 2) := by decide +kernel
theorem dX5_above_41 : decode cX5_above 41 = .ok (.ifCond .eq 8, 3) := by decide +kernel
theorem dX5_above_44 : decode cX5_above 44 = .ok (.iload 5, 2) := by decide +kernel
theorem dX5_above_46 : decode cX5_above 46 = .ok (.ifCond .ne 63, 3) := by decide +kernel
theorem dX5_above_49 : decode cX5_above 49 = .ok (.aload_n 0, 1) := by decide +kernel
theorem dX5_above_50 : decode cX5_above 50 = .ok (.invokevirtual 161, 3) := by decide +kernel
theorem dX5_above_53 : decode cX5_above 53 = .ok (.ifCond .eq 56, 3) := by decide +kernel
theorem dX5_above_56 : decode cX5_above 56 = .ok (.iload 4, 2) := by decide +kernel
theorem dX5_above_58 : decode cX5_above 58 = .ok (.aload_n 0, 1) := by decide +kernel
theorem dX5_above_59 : decode cX5_above 59 = .ok (.getfield 46, 3) := by decide +kernel
theorem dX5_above_62 : decode cX5_above 62 = .ok (.iload_n 2, 1) := by decide +kernel
theorem dX5_above_63 : decode cX5_above 63 = .ok (.iaload, 1) := by decide +kernel
theorem dX5_above_64 : decode cX5_above 64 = .ok (.aload_n 0, 1) := by decide +kernel
theorem dX5_above_65 : decode cX5_above 65 = .ok (.getfield 46, 3) := by decide +kernel
theorem dX5_above_68 : decode cX5_above 68 = .ok (.iload_n 3, 1) := by decide +kernel
theorem dX5_above_69 : decode cX5_above 69 = .ok (.iaload, 1) := by decide +kernel
theorem dX5_above_70 : decode cX5_above 70 = .ok (.if_icmp .le 7, 3) := by decide +kernel
theorem dX5_above_73 : decode cX5_above 73 = .ok (.iconst 1, 1) := by decide +kernel
theorem dX5_above_74 : decode cX5_above 74 = .ok (.goto 4, 3) := by decide +kernel
theorem dX5_above_77 : decode cX5_above 77 = .ok (.iconst 0, 1) := by decide +kernel
theorem dX5_above_78 : decode cX5_above 78 = .ok (.ior, 1) := by decide +kernel
theorem dX5_above_79 : decode cX5_above 79 = .ok (.istore 4, 2) := by decide +kernel
theorem dX5_above_81 : decode cX5_above 81 = .ok (.iload 5, 2) := by decide +kernel
theorem dX5_above_83 : decode cX5_above 83 = .ok (.aload_n 0, 1) := by decide +kernel
theorem dX5_above_84 : decode cX5_above 84 = .ok (.getfield 46, 3) := by decide +kernel
theorem dX5_above_87 : decode cX5_above 87 = .ok (.iload_n 2, 1) := by decide +kernel
theorem dX5_above_88 : decode cX5_above 88 = .ok (.iaload, 1) := by decide +kernel
theorem dX5_above_89 : decode cX5_above 89 = .ok (.aload_n 0, 1) := by decide +kernel
theorem dX5_above_90 : decode cX5_above 90 = .ok (.getfield 46, 3) := by decide +kernel
theorem dX5_above_93 : decode cX5_above 93 = .ok (.iload_n 3, 1) := by decide +kernel
theorem dX5_above_94 : decode cX5_above 94 = .ok (.iaload, 1) := by decide +kernel
theorem dX5_above_95 : decode cX5_above 95 = .ok (.if_icmp .ge 7, 3) := by decide +kernel
theorem dX5_above_98 : decode cX5_above 98 = .ok (.iconst 1, 1) := by decide +kernel
theorem dX5_above_99 : decode cX5_above 99 = .ok (.goto 4, 3) := by decide +kernel
theorem dX5_above_102 : decode cX5_above 102 = .ok (.iconst 0, 1) := by decide +kernel
theorem dX5_above_103 : decode cX5_above 103 = .ok (.ior, 1) := by decide +kernel
theorem dX5_above_104 : decode cX5_above 104 = .ok (.istore 5, 2) := by decide +kernel
theorem dX5_above_106 : decode cX5_above 106 = .ok (.goto (-67), 3) := by decide +kernel
theorem dX5_above_109 : decode cX5_above 109 = .ok (.iload 4, 2) := by decide +kernel
theorem dX5_above_111 : decode cX5_above 111 = .ok (.ifCond .eq 12, 3) := by decide +kernel
theorem dX5_above_114 : decode cX5_above 114 = .ok (.iload 5, 2) := by decide +kernel
theorem dX5_above_116 : decode cX5_above 116 = .ok (.ifCond .eq 7, 3) := by decide +kernel
theorem dX5_above_119 : decode cX5_above 119 = .ok (.iconst 0, 1) := by decide +kernel
theorem dX5_above_120 : decode cX5_above 120 = .ok (.goto 22, 3) := by decide +kernel
theorem dX5_above_123 : decode cX5_above 123 = .ok (.iload 4, 2) := by decide +kernel
theorem dX5_above_125 : decode cX5_above 125 = .ok (.ifCond .eq 7, 3) := by decide +kernel
theorem dX5_above_128 : decode cX5_above 128 = .ok (.iconst 1, 1) := by decide +kernel
theorem dX5_above_129 : decode cX5_above 129 = .ok (.goto 13, 3) := by decide +kernel
theorem dX5_above_132 : decode cX5_above 132 = .ok (.iload 5, 2) := by decide +kernel
theorem dX5_above_134 : decode cX5_above 134 = .ok (.ifCond .eq 7, 3) := by decide +kernel
theorem dX5_above_137 : decode cX5_above 137 = .ok (.iconst (-1), 1) := by decide +kernel
theorem dX5_above_138 : decode cX5_above 138 = .ok (.goto 4, 3) := by decide +kernel
theorem dX5_above_141 : decode cX5_above 141 = .ok (.iconst 2, 1) := by decide +kernel
theorem dX5_above_142 : decode cX5_above 142 = .ok (.ireturn, 1) := by decide +kernel
theorem dX5_alike_0 : decode cX5_alike 0 = .ok (.aload_n 0, 1) := by decide +kernel
theorem dX5_alike_1 : decode cX5_alike 1 = .ok (.iload_n 1, 1) := by decide +kernel
theorem dX5_alike_2 : decode cX5_alike 2 = .ok (.invokevirtual 85, 3) := by decide +kernel
theorem dX5_alike_5 : decode cX5_alike 5 = .ok (.ifCond .eq 11, 3) := by decide +kernel
theorem dX5_alike_8 : decode cX5_alike 8 = .ok (.aload_n 0, 1) := by decide +kernel
theorem dX5_alike_9 : decode cX5_alike 9 = .ok (.iload_n 2, 1) := by decide +kernel
theorem dX5_alike_10 : decode cX5_alike 10 = .ok (.invokevirtual 85, 3) := by decide +kernel
theorem dX5_alike_13 : decode cX5_alike 13 = .ok (.ifCond .ne 6, 3) := by decide +kernel
theorem dX5_alike_16 : decode cX5_alike 16 = .ok (.bipush (-101), 2) := by decide +kernel
theorem dX5_alike_18 : decode cX5_alike 18 = .ok (.ireturn, 1) := by decide +kernel
theorem dX5_alike_19 : decode cX5_alike 19 = .ok (.aload_n 0, 1) := by decide +kernel
theorem dX5_alike_20 : decode cX5_alike 20 = .ok (.getfield 13, 3) := by decide +kernel
theorem dX5_alike_23 : decode cX5_alike 23 = .ok (.iload_n 1, 1) := by decide +kernel
theorem dX5_alike_24 : decode cX5_alike 24 = .ok (.iaload, 1) := by decide +kernel
theorem dX5_alike_25 : decode cX5_alike 25 = .ok (.aload_n 0, 1) := by decide +kernel
theorem dX5_alike_26 : decode cX5_alike 26 = .ok (.getfield 13, 3) := by decide +kernel
theorem dX5_alike_29 : decode cX5_alike 29 = .ok (.iload_n 2, 1) := by decide +kernel
theorem dX5_alike_30 : decode cX5_alike 30 = .ok (.iaload, 1) := by decide +kernel
theorem dX5_alike_31 : decode cX5_alike 31 = .ok (.if_icmp .ne 16, 3) := by decide +kernel
theorem dX5_alike_34 : decode cX5_alike 34 = .ok (.aload_n 0, 1) := by decide +kernel
theorem dX5_alike_35 : decode cX5_alike 35 = .ok (.iload_n 1, 1) := by decide +kernel
theorem dX5_alike_36 : decode cX5_alike 36 = .ok (.invokevirtual 177, 3) := by decide +kernel
theorem dX5_alike_39 : decode cX5_alike 39 = .ok (.aload_n 0, 1) := by decide +kernel
theorem dX5_alike_40 : decode cX5_alike 40 = .ok (.iload_n 2, 1) := by decide +kernel
theorem dX5_alike_41 : decode cX5_alike 41 = .ok (.invokevirtual 177, 3) := by decide +kernel
theorem dX5_alike_44 : decode cX5_alike 44 = .ok (.if_icmp .eq 5, 3) := by decide +kernel
theorem dX5_alike_47 : decode cX5_alike 47 = .ok (.iconst 0, 1) := by decide +kernel
theorem dX5_alike_48 : decode cX5_alike 48 = .ok (.ireturn, 1) := by decide +kernel
theorem dX5_alike_49 : decode cX5_alike 49 = .ok (.aload_n 0, 1) := by decide +kernel
theorem dX5_alike_50 : decode cX5_alike 50 = .ok (.iload_n 1, 1) := by decide +kernel
theorem dX5_alike_51 : decode cX5_alike 51 = .ok (.invokevirtual 157, 3) := by decide +kernel
theorem dX5_alike_54 : decode cX5_alike 54 = .ok (.aload_n 0, 1) := by decide +kernel
theorem dX5_alike_55 : decode cX5_alike 55 = .ok (.invokevirtual 161, 3) := by decide +kernel
theorem dX5_alike_58 : decode cX5_alike 58 = .ok (.ifCond .eq 128, 3) := by decide +kernel
theorem dX5_alike_61 : decode cX5_alike 61 = .ok (.aload_n 0, 1) := by decide +kernel
theorem dX5_alike_62 : decode cX5_alike 62 = .ok (.getfield 120, 3) := by decide +kernel
theorem dX5_alike_65 : decode cX5_alike 65 = .ok (.istore_n 3, 1) := by decide +kernel
theorem dX5_alike_66 : decode cX5_alike 66 = .ok (.iconst 0, 1) := by decide +kernel
theorem dX5_alike_67 : decode cX5_alike 67 = .ok (.istore 4, 2) := by decide +kernel
theorem dX5_alike_69 : decode cX5_alike 69 = .ok (.iload 4, 2) := by decide +kernel
theorem dX5_alike_71 : decode cX5_alike 71 = .ok (.bipush 9, 2) := by decide +kernel
theorem dX5_alike_73 : decode cX5_alike 73 = .ok (.if_icmp .ge 37, 3) := by decide +kernel
theorem dX5_alike_76 : decode cX5_alike 76 = .ok (.aload_n 0, 1) := by decide +kernel
theorem dX5_alike_77 : decode cX5_alike 77 = .ok (.getfield 59, 3) := by decide +kernel
theorem dX5_alike_80 : decode cX5_alike 80 = .ok (.iload 4, 2) := by decide +kernel
theorem dX5_alike_82 : decode cX5_alike 82 = .ok (.aload_n 0, 1) := by decide +kernel
theorem dX5_alike_83 : decode cX5_alike 83 = .ok (.getfield 43, 3) := by decide +kernel
theorem dX5_alike_86 : decode cX5_alike 86 = .ok (.iload 4, 2) := by decide +kernel
theorem dX5_alike_88 : decode cX5_alike 88 = .ok (.iaload, 1) := by decide +kernel
theorem dX5_alike_89 : decode cX5_alike 89 = .ok (.iastore, 1) := by decide +kernel
theorem dX5_alike_90 : decode cX5_alike 90 = .ok (.aload_n 0, 1) := by decide +kernel
theorem dX5_alike_91 : decode cX5_alike 91 = .ok (.getfield 62, 3) := by decide +kernel
theorem dX5_alike_94 : decode cX5_alike 94 = .ok (.iload 4, 2) := by decide +kernel
theorem dX5_alike_96 : decode cX5_alike 96 = .ok (.aload_n 0, 1) := by decide +kernel
theorem dX5_alike_97 : decode cX5_alike 97 = .ok (.getfield 46, 3) := by decide +kernel
theorem dX5_alike_100 : decode cX5_alike 100 = .ok (.iload 4, 2) := by decide +kernel
theorem dX5_alike_102 : decode cX5_alike 102 = .ok (.iaload, 1) := by decide +kernel
theorem dX5_alike_103 : decode cX5_alike 103 = .ok (.iastore, 1) := by decide +kernel
theorem dX5_alike_104 : decode cX5_alike 104 = .ok (.iinc 4 1, 3) := by decide +kernel
theorem dX5_alike_107 : decode cX5_alike 107 = .ok (.goto (-38), 3) := by decide +kernel
theorem dX5_alike_110 : decode cX5_alike 110 = .ok (.aload_n 0, 1) := by decide +kernel
theorem dX5_alike_111 : decode cX5_alike 111 = .ok (.iload_n 2, 1) := by decide +kernel
theorem dX5_alike_112 : decode cX5_alike 112 = .ok (.aload_n 0, 1) := by decide +kernel
theorem dX5_alike_113 : decode cX5_alike 113 = .ok (.invokevirtual 167, 3) := by decide +kernel
theorem dX5_alike_116 : decode cX5_alike 116 = .ok (.invokevirtual 180, 3) := by decide +kernel
theorem dX5_alike_119 : decode cX5_alike 119 = .ok (.ifCond .eq 5, 3) := by decide +kernel
theorem dX5_alike_122 : decode cX5_alike 122 = .ok (.iconst 0, 1) := by decide +kernel
theorem dX5_alike_123 : decode cX5_alike 123 = .ok (.ireturn, 1) := by decide +kernel
theorem dX5_alike_124 : decode cX5_alike 124 = .ok (.aload_n 0, 1) := by decide +kernel
theorem dX5_alike_125 : decode cX5_alike 125 = .ok (.iload_n 1, 1) := by decide +kernel
theorem dX5_alike_126 : decode cX5_alike 126 = .ok (.invokevirtual 157, 3) := by decide +kernel
theorem dX5_alike_129 : decode cX5_alike 129 = .ok (.aload_n 0, 1) := by decide +kernel
theorem dX5_alike_130 : decode cX5_alike 130 = .ok (.iconst 1, 1) := by decide +kernel
theorem dX5_alike_131 : decode cX5_alike 131 = .ok (.putfield 123, 3) := by decide +kernel
theorem dX5_alike_134 : decode cX5_alike 134 = .ok (.aload_n 0, 1) := by decide +kernel
theorem dX5_alike_135 : decode cX5_alike 135 = .ok (.iload_n 3, 1) := by decide +kernel
theorem dX5_alike_136 : decode cX5_alike 136 = .ok (.putfield 120, 3) := by decide +kernel
theorem dX5_alike_139 : decode cX5_alike 139 = .ok (.iconst 0, 1) := by decide +kernel
theorem dX5_alike_140 : decode cX5_alike 140 = .ok (.istore 4, 2) := by decide +kernel
theorem dX5_alike_142 : decode cX5_alike 142 = .ok (.iload 4, 2) := by decide +kernel
theorem dX5_alike_144 : decode cX5_alike 144 = .ok (.bipush 9, 2) := by decide +kernel
theorem dX5_alike_146 : decode cX5_alike 146 = .ok (.if_icmp .ge 37, 3) := by decide +kernel
theorem dX5_alike_149 : decode cX5_alike 149 = .ok (.aload_n 0, 1) := by decide +kernel
theorem dX5_alike_150 : decode cX5_alike 150 = .ok (.getfield 43, 3) := by decide +kernel
theorem dX5_alike_153 : decode cX5_alike 153 = .ok (.iload 4, 2) := by decide +kernel
theorem dX5_alike_155 : decode cX5_alike 155 = .ok (.aload_n 0, 1) := by decide +kernel
theorem dX5_alike_156 : decode cX5_alike 156 = .ok (.getfield 59, 3) := by decide +kernel
theorem dX5_alike_159 : decode cX5_alike 159 = .ok (.iload 4, 2) := by decide +kernel
theorem dX5_alike_161 : decode cX5_alike 161 = .ok (.iaload, 1) := by decide +kernel
theorem dX5_alike_162 : decode cX5_alike 162 = .ok (.iastore, 1) := by decide +kernel
theorem dX5_alike_163 : decode cX5_alike 163 = .ok (.aload_n 0, 1) := by decide +kernel
theorem dX5_alike_164 : decode cX5_alike 164 = .ok (.getfield 46, 3) := by decide +kernel
theorem dX5_alike_167 : decode cX5_alike 167 = .ok (.iload 4, 2) := by decide +kernel
theorem dX5_alike_169 : decode cX5_alike 169 = .ok (.aload_n 0, 1) := by decide +kernel
theorem dX5_alike_170 : decode cX5_alike 170 = .ok (.getfield 62, 3) := by decide +kernel
theorem dX5_alike_173 : decode cX5_alike 173 = .ok (.iload 4, 2) := by decide +kernel
theorem dX5_alike_175 : decode cX5_alike 175 = .ok (.iaload, 1) := by decide +kernel
theorem dX5_alike_176 : decode cX5_alike 176 = .ok (.iastore, 1) := by decide +kernel
theorem dX5_alike_177 : decode cX5_alike 177 = .ok (.iinc 4 1, 3) := by decide +kernel
theorem dX5_alike_180 : decode cX5_alike 180 = .ok (.goto (-38), 3) := by decide +kernel
theorem dX5_alike_183 : decode cX5_alike 183 = .ok (.goto (-129), 3) := by decide +kernel
theorem dX5_alike_186 : decode cX5_alike 186 = .ok (.iconst 1, 1) := by decide +kernel
theorem dX5_alike_187 : decode cX5_alike 187 = .ok (.ireturn, 1) := by decide +kernel
theorem dX5_foldings_0 : decode cX5_foldings 0 = .ok (.aload_n 0, 1) := by decide +kernel
theorem dX5_foldings_1 : decode cX5_foldings 1 = .ok (.iload_n 1, 1) := by decide +kernel
theorem dX5_foldings_2 : decode cX5_foldings 2 = .ok (.invokevirtual 85, 3) := by decide +kernel
theorem dX5_foldings_5 : decode cX5_foldings 5 = .ok (.ifCond .ne 6, 3) := by decide +kernel
theorem dX5_foldings_8 : decode cX5_foldings 8 = .ok (.bipush (-101), 2) := by decide +kernel
theorem dX5_foldings_10 : decode cX5_foldings 10 = .ok (.ireturn, 1) := by decide +kernel
theorem dX5_foldings_11 : decode cX5_foldings 11 = .ok (.iconst 0, 1) := by decide +kernel
theorem dX5_foldings_12 : decode cX5_foldings 12 = .ok (.istore_n 2, 1) := by decide +kernel
theorem dX5_foldings_13 : decode cX5_foldings 13 = .ok (.iload_n 2, 1) := by decide +kernel
theorem dX5_foldings_14 : decode cX5_foldings 14 = .ok (.sipush 4096, 3) := by decide +kernel
theorem dX5_foldings_17 : decode cX5_foldings 17 = .ok (.if_icmp .ge 16, 3) := by decide +kernel
theorem dX5_foldings_20 : decode cX5_foldings 20 = .ok (.aload_n 0, 1) := by decide +kernel
theorem dX5_foldings_21 : decode cX5_foldings 21 = .ok (.getfield 65, 3) := by decide +kernel
theorem dX5_foldings_24 : decode cX5_foldings 24 = .ok (.iload_n 2, 1) := by decide +kernel
theorem dX5_foldings_25 : decode cX5_foldings 25 = .ok (.iconst 0, 1) := by decide +kernel
theorem dX5_foldings_26 : decode cX5_foldings 26 = .ok (.bastore, 1) := by decide +kernel
theorem dX5_foldings_27 : decode cX5_foldings 27 = .ok (.iinc 2 1, 3) := by decide +kernel
theorem dX5_foldings_30 : decode cX5_foldings 30 = .ok (.goto (-17), 3) := by decide +kernel
theorem dX5_foldings_33 : decode cX5_foldings 33 = .ok (.aload_n 0, 1) := by decide +kernel
theorem dX5_foldings_34 : decode cX5_foldings 34 = .ok (.iload_n 1, 1) := by decide +kernel
theorem dX5_foldings_35 : decode cX5_foldings 35 = .ok (.invokevirtual 157, 3) := by decide +kernel
theorem dX5_foldings_38 : decode cX5_foldings 38 = .ok (.iconst 0, 1) := by decide +kernel
theorem dX5_foldings_39 : decode cX5_foldings 39 = .ok (.istore_n 2, 1) := by decide +kernel
theorem dX5_foldings_40 : decode cX5_foldings 40 = .ok (.aload_n 0, 1) := by decide +kernel
theorem dX5_foldings_41 : decode cX5_foldings 41 = .ok (.invokevirtual 161, 3) := by decide +kernel
theorem dX5_foldings_44 : decode cX5_foldings 44 = .ok (.ifCond .eq 73, 3) := by decide +kernel
theorem dX5_foldings_47 : decode cX5_foldings 47 = .ok (.iconst 0, 1) := by decide +kernel
theorem dX5_foldings_48 : decode cX5_foldings 48 = .ok (.istore_n 3, 1) := by decide +kernel
theorem dX5_foldings_49 : decode cX5_foldings 49 = .ok (.iconst 0, 1) := by decide +kernel
theorem dX5_foldings_50 : decode cX5_foldings 50 = .ok (.istore 4, 2) := by decide +kernel
theorem dX5_foldings_52 : decode cX5_foldings 52 = .ok (.iload 4, 2) := by decide +kernel
theorem dX5_foldings_54 : decode cX5_foldings 54 = .ok (.aload_n 0, 1) := by decide +kernel
theorem dX5_foldings_55 : decode cX5_foldings 55 = .ok (.getfield 22, 3) := by decide +kernel
theorem dX5_foldings_58 : decode cX5_foldings 58 = .ok (.iload_n 1, 1) := by decide +kernel
theorem dX5_foldings_59 : decode cX5_foldings 59 = .ok (.iaload, 1) := by decide +kernel
theorem dX5_foldings_60 : decode cX5_foldings 60 = .ok (.if_icmp .ge 30, 3) := by decide +kernel
theorem dX5_foldings_63 : decode cX5_foldings 63 = .ok (.iload_n 3, 1) := by decide +kernel
theorem dX5_foldings_64 : decode cX5_foldings 64 = .ok (.aload_n 0, 1) := by decide +kernel
theorem dX5_foldings_65 : decode cX5_foldings 65 = .ok (.iload 4, 2) := by decide +kernel
theorem dX5_foldings_67 : decode cX5_foldings 67 = .ok (.invokevirtual 143, 3) := by decide +kernel
theorem dX5_foldings_70 : decode cX5_foldings 70 = .ok (.iconst 2, 1) := by decide +kernel
theorem dX5_foldings_71 : decode cX5_foldings 71 = .ok (.if_icmp .ne 10, 3) := by decide +kernel
theorem dX5_foldings_74 : decode cX5_foldings 74 = .ok (.iconst 1, 1) := by decide +kernel
theorem dX5_foldings_75 : decode cX5_foldings 75 = .ok (.iload 4, 2) := by decide +kernel
theorem dX5_foldings_77 : decode cX5_foldings 77 = .ok (.ishl, 1) := by decide +kernel
theorem dX5_foldings_78 : decode cX5_foldings 78 = .ok (.goto 4, 3) := by decide +kernel
theorem dX5_foldings_81 : decode cX5_foldings 81 = .ok (.iconst 0, 1) := by decide +kernel
theorem dX5_foldings_82 : decode cX5_foldings 82 = .ok (.ior, 1) := by decide +kernel
theorem dX5_foldings_83 : decode cX5_foldings 83 = .ok (.istore_n 3, 1) := by decide +kernel
theorem dX5_foldings_84 : decode cX5_foldings 84 = .ok (.iinc 4 1, 3) := by decide +kernel
theorem dX5_foldings_87 : decode cX5_foldings 87 = .ok (.goto (-35), 3) := by decide +kernel
theorem dX5_foldings_90 : decode cX5_foldings 90 = .ok (.iload_n 2, 1) := by decide +kernel
theorem dX5_foldings_91 : decode cX5_foldings 91 = .ok (.aload_n 0, 1) := by decide +kernel
theorem dX5_foldings_92 : decode cX5_foldings 92 = .ok (.getfield 65, 3) := by decide +kernel
theorem dX5_foldings_95 : decode cX5_foldings 95 = .ok (.iload_n 3, 1) := by decide +kernel
theorem dX5_foldings_96 : decode cX5_foldings 96 = .ok (.baload, 1) := by decide +kernel
theorem dX5_foldings_97 : decode cX5_foldings 97 = .ok (.ifCond .eq 7, 3) := by decide +kernel
theorem dX5_foldings_100 : decode cX5_foldings 100 = .ok (.iconst 0, 1) := by decide +kernel
theorem dX5_foldings_101 : decode cX5_foldings 101 = .ok (.goto 4, 3) := by decide +kernel
theorem dX5_foldings_104 : decode cX5_foldings 104 = .ok (.iconst 1, 1) := by decide +kernel
theorem dX5_foldings_105 : decode cX5_foldings 105 = .ok (.iadd, 1) := by decide +kernel
theorem dX5_foldings_106 : decode cX5_foldings 106 = .ok (.istore_n 2, 1) := by decide +kernel
theorem dX5_foldings_107 : decode cX5_foldings 107 = .ok (.aload_n 0, 1) := by decide +kernel
theorem dX5_foldings_108 : decode cX5_foldings 108 = .ok (.getfield 65, 3) := by decide +kernel
theorem dX5_foldings_111 : decode cX5_foldings 111 = .ok (.iload_n 3, 1) := by decide +kernel
theorem dX5_foldings_112 : decode cX5_foldings 112 = .ok (.iconst 1, 1) := by decide +kernel
theorem dX5_foldings_113 : decode cX5_foldings 113 = .ok (.bastore, 1) := by decide +kernel
theorem dX5_foldings_114 : decode cX5_foldings 114 = .ok (.goto (-74), 3) := by decide +kernel
theorem dX5_foldings_117 : decode cX5_foldings 117 = .ok (.iload_n 2, 1) := by decide +kernel
theorem dX5_foldings_118 : decode cX5_foldings 118 = .ok (.ireturn, 1) := by decide +kernel
theorem dX5_isAllowed_0 : decode cX5_isAllowed 0 = .ok (.aload_n 0, 1) := by decide +kernel
theorem dX5_isAllowed_1 : decode cX5_isAllowed 1 = .ok (.iload_n 1, 1) := by decide +kernel
theorem dX5_isAllowed_2 : decode cX5_isAllowed 2 = .ok (.invokevirtual 157, 3) := by decide +kernel
theorem dX5_isAllowed_5 : decode cX5_isAllowed 5 = .ok (.aload_n 0, 1) := by decide +kernel
theorem dX5_isAllowed_6 : decode cX5_isAllowed 6 = .ok (.invokevirtual 161, 3) := by decide +kernel
theorem dX5_isAllowed_9 : decode cX5_isAllowed 9 = .ok (.ireturn, 1) := by decide +kernel
theorem dX5_clash_0 : decode cX5_clash 0 = .ok (.aload_n 0, 1) := by decide +kernel
theorem dX5_clash_1 : decode cX5_clash 1 = .ok (.iload_n 1, 1) := by decide +kernel
theorem dX5_clash_2 : decode cX5_clash 2 = .ok (.invokevirtual 85, 3) := by decide +kernel
theorem dX5_clash_5 : decode cX5_clash 5 = .ok (.ifCond .ne 6, 3) := by decide +kernel
theorem dX5_clash_8 : decode cX5_clash 8 = .ok (.bipush (-101), 2) := by decide +kernel
theorem dX5_clash_10 : decode cX5_clash 10 = .ok (.ireturn, 1) := by decide +kernel
theorem dX5_clash_11 : decode cX5_clash 11 = .ok (.aload_n 0, 1) := by decide +kernel
theorem dX5_clash_12 : decode cX5_clash 12 = .ok (.iconst 0, 1) := by decide +kernel
theorem dX5_clash_13 : decode cX5_clash 13 = .ok (.putfield 184, 3) := by decide +kernel
theorem dX5_clash_16 : decode cX5_clash 16 = .ok (.aload_n 0, 1) := by decide +kernel
theorem dX5_clash_17 : decode cX5_clash 17 = .ok (.iload_n 1, 1) := by decide +kernel
theorem dX5_clash_18 : decode cX5_clash 18 = .ok (.invokevirtual 187, 3) := by decide +kernel
theorem dX5_clash_21 : decode cX5_clash 21 = .ok (.ifCond .eq 5, 3) := by decide +kernel
theorem dX5_clash_24 : decode cX5_clash 24 = .ok (.iconst 0, 1) := by decide +kernel
theorem dX5_clash_25 : decode cX5_clash 25 = .ok (.ireturn, 1) := by decide +kernel
theorem dX5_clash_26 : decode cX5_clash 26 = .ok (.aload_n 0, 1) := by decide +kernel
theorem dX5_clash_27 : decode cX5_clash 27 = .ok (.getfield 72, 3) := by decide +kernel
theorem dX5_clash_30 : decode cX5_clash 30 = .ok (.astore_n 2, 1) := by decide +kernel
theorem dX5_clash_31 : decode cX5_clash 31 = .ok (.iconst 0, 1) := by decide +kernel
theorem dX5_clash_32 : decode cX5_clash 32 = .ok (.istore_n 3, 1) := by decide +kernel
theorem dX5_clash_33 : decode cX5_clash 33 = .ok (.iload_n 3, 1) := by decide +kernel
theorem dX5_clash_34 : decode cX5_clash 34 = .ok (.aload_n 0, 1) := by decide +kernel
theorem dX5_clash_35 : decode cX5_clash 35 = .ok (.getfield 22, 3) := by decide +kernel
theorem dX5_clash_38 : decode cX5_clash 38 = .ok (.iload_n 1, 1) := by decide +kernel
theorem dX5_clash_39 : decode cX5_clash 39 = .ok (.iaload, 1) := by decide +kernel
theorem dX5_clash_40 : decode cX5_clash 40 = .ok (.if_icmp .ge 23, 3) := by decide +kernel
theorem dX5_clash_43 : decode cX5_clash 43 = .ok (.aload_n 2, 1) := by decide +kernel
theorem dX5_clash_44 : decode cX5_clash 44 = .ok (.iload_n 3, 1) := by decide +kernel
theorem dX5_clash_45 : decode cX5_clash 45 = .ok (.aload_n 0, 1) := by decide +kernel
theorem dX5_clash_46 : decode cX5_clash 46 = .ok (.getfield 34, 3) := by decide +kernel
theorem dX5_clash_49 : decode cX5_clash 49 = .ok (.bipush 12, 2) := by decide +kernel
theorem dX5_clash_51 : decode cX5_clash 51 = .ok (.iload_n 1, 1) := by decide +kernel
theorem dX5_clash_52 : decode cX5_clash 52 = .ok (.imul, 1) := by decide +kernel
theorem dX5_clash_53 : decode cX5_clash 53 = .ok (.iload_n 3, 1) := by decide +kernel
theorem dX5_clash_54 : decode cX5_clash 54 = .ok (.iadd, 1) := by decide +kernel
theorem dX5_clash_55 : decode cX5_clash 55 = .ok (.iaload, 1) := by decide +kernel
theorem dX5_clash_56 : decode cX5_clash 56 = .ok (.iastore, 1) := by decide +kernel
theorem dX5_clash_57 : decode cX5_clash 57 = .ok (.iinc 3 1, 3) := by decide +kernel
theorem dX5_clash_60 : decode cX5_clash 60 = .ok (.goto (-27), 3) := by decide +kernel
theorem dX5_clash_63 : decode cX5_clash 63 = .ok (.aload_n 0, 1) := by decide +kernel
theorem dX5_clash_64 : decode cX5_clash 64 = .ok (.getfield 22, 3) := by decide +kernel
theorem dX5_clash_67 : decode cX5_clash 67 = .ok (.iload_n 1, 1) := by decide +kernel
theorem dX5_clash_68 : decode cX5_clash 68 = .ok (.iaload, 1) := by decide +kernel
theorem dX5_clash_69 : decode cX5_clash 69 = .ok (.iconst 1, 1) := by decide +kernel
theorem dX5_clash_70 : decode cX5_clash 70 = .ok (.isub, 1) := by decide +kernel
theorem dX5_clash_71 : decode cX5_clash 71 = .ok (.istore_n 3, 1) := by decide +kernel
theorem dX5_clash_72 : decode cX5_clash 72 = .ok (.iload_n 3, 1) := by decide +kernel
theorem dX5_clash_73 : decode cX5_clash 73 = .ok (.ifCond .lt 60, 3) := by decide +kernel
theorem dX5_clash_76 : decode cX5_clash 76 = .ok (.aload_n 0, 1) := by decide +kernel
theorem dX5_clash_77 : decode cX5_clash 77 = .ok (.getfield 34, 3) := by decide +kernel
theorem dX5_clash_80 : decode cX5_clash 80 = .ok (.bipush 12, 2) := by decide +kernel
theorem dX5_clash_82 : decode cX5_clash 82 = .ok (.iload_n 1, 1) := by decide +kernel
theorem dX5_clash_83 : decode cX5_clash 83 = .ok (.imul, 1) := by decide +kernel
theorem dX5_clash_84 : decode cX5_clash 84 = .ok (.iload_n 3, 1) := by decide +kernel
theorem dX5_clash_85 : decode cX5_clash 85 = .ok (.iadd, 1) := by decide +kernel
theorem dX5_clash_86 : decode cX5_clash 86 = .ok (.iaload, 1) := by decide +kernel
theorem dX5_clash_87 : decode cX5_clash 87 = .ok (.istore 4, 2) := by decide +kernel
theorem dX5_clash_89 : decode cX5_clash 89 = .ok (.iload 4, 2) := by decide +kernel
theorem dX5_clash_91 : decode cX5_clash 91 = .ok (.ifCond .eq 36, 3) := by decide +kernel
theorem dX5_clash_94 : decode cX5_clash 94 = .ok (.aload_n 0, 1) := by decide +kernel
theorem dX5_clash_95 : decode cX5_clash 95 = .ok (.getfield 34, 3) := by decide +kernel
theorem dX5_clash_98 : decode cX5_clash 98 = .ok (.bipush 12, 2) := by decide +kernel
theorem dX5_clash_100 : decode cX5_clash 100 = .ok (.iload_n 1, 1) := by decide +kernel
theorem dX5_clash_101 : decode cX5_clash 101 = .ok (.imul, 1) := by decide +kernel
theorem dX5_clash_102 : decode cX5_clash 102 = .ok (.iload_n 3, 1) := by decide +kernel
theorem dX5_clash_103 : decode cX5_clash 103 = .ok (.iadd, 1) := by decide +kernel
theorem dX5_clash_104 : decode cX5_clash 104 = .ok (.iconst 0, 1) := by decide +kernel
theorem dX5_clash_105 : decode cX5_clash 105 = .ok (.iastore, 1) := by decide +kernel
theorem dX5_clash_106 : decode cX5_clash 106 = .ok (.aload_n 0, 1) := by decide +kernel
theorem dX5_clash_107 : decode cX5_clash 107 = .ok (.iload_n 1, 1) := by decide +kernel
theorem dX5_clash_108 : decode cX5_clash 108 = .ok (.invokevirtual 187, 3) := by decide +kernel
theorem dX5_clash_111 : decode cX5_clash 111 = .ok (.ifCond .eq 16, 3) := by decide +kernel
end
section
theorem dX5_clash_114 : decode cX5_clash 114 = .ok (.aload_n 0, 1) := by decide +kernel
theorem dX5_clash_115 : decode cX5_clash 115 = .ok (.getfield 34, 3) := by decide +kernel
theorem dX5_clash_118 : decode cX5_clash 118 = .ok (.bipush 12, 2) := by decide +kernel
theorem dX5_clash_120 : decode cX5_clash 120 = .ok (.iload_n 1, 1) := by decide +kernel
theorem dX5_clash_121 : decode cX5_clash 121 = .ok (.imul, 1) := by decide +kernel
theorem dX5_clash_122 : decode cX5_clash 122 = .ok (.iload_n 3, 1) := by decide +kernel
theorem dX5_clash_123 : decode cX5_clash 123 = .ok (.iadd, 1) := by decide +kernel
theorem dX5_clash_124 : decode cX5_clash 124 = .ok (.iload 4, 2) := by decide +kernel
theorem dX5_clash_126 : decode cX5_clash 126 = .ok (.iastore, 1) := by decide +kernel
theorem dX5_clash_127 : decode cX5_clash 127 = .ok (.iinc 3 (-1), 3) := by decide +kernel
theorem dX5_clash_130 : decode cX5_clash 130 = .ok (.goto (-58), 3) := by decide +kernel
theorem dX5_clash_133 : decode cX5_clash 133 = .ok (.iconst 0, 1) := by decide +kernel
theorem dX5_clash_134 : decode cX5_clash 134 = .ok (.istore_n 3, 1) := by decide +kernel
theorem dX5_clash_135 : decode cX5_clash 135 = .ok (.iload_n 3, 1) := by decide +kernel
theorem dX5_clash_136 : decode cX5_clash 136 = .ok (.aload_n 0, 1) := by decide +kernel
theorem dX5_clash_137 : decode cX5_clash 137 = .ok (.getfield 22, 3) := by decide +kernel
theorem dX5_clash_140 : decode cX5_clash 140 = .ok (.iload_n 1, 1) := by decide +kernel
theorem dX5_clash_141 : decode cX5_clash 141 = .ok (.iaload, 1) := by decide +kernel
theorem dX5_clash_142 : decode cX5_clash 142 = .ok (.if_icmp .ge 57, 3) := by decide +kernel
theorem dX5_clash_145 : decode cX5_clash 145 = .ok (.aload_n 0, 1) := by decide +kernel
theorem dX5_clash_146 : decode cX5_clash 146 = .ok (.getfield 34, 3) := by decide +kernel
theorem dX5_clash_149 : decode cX5_clash 149 = .ok (.bipush 12, 2) := by decide +kernel
theorem dX5_clash_151 : decode cX5_clash 151 = .ok (.iload_n 1, 1) := by decide +kernel
theorem dX5_clash_152 : decode cX5_clash 152 = .ok (.imul, 1) := by decide +kernel
theorem dX5_clash_153 : decode cX5_clash 153 = .ok (.iload_n 3, 1) := by decide +kernel
theorem dX5_clash_154 : decode cX5_clash 154 = .ok (.iadd, 1) := by decide +kernel
theorem dX5_clash_155 : decode cX5_clash 155 = .ok (.iaload, 1) := by decide +kernel
theorem dX5_clash_156 : decode cX5_clash 156 = .ok (.ifCond .eq 23, 3) := by decide +kernel
theorem dX5_clash_159 : decode cX5_clash 159 = .ok (.aload_n 0, 1) := by decide +kernel
theorem dX5_clash_160 : decode cX5_clash 160 = .ok (.getfield 69, 3) := by decide +kernel
theorem dX5_clash_163 : decode cX5_clash 163 = .ok (.aload_n 0, 1) := by decide +kernel
theorem dX5_clash_164 : decode cX5_clash 164 = .ok (.getfield 184, 3) := by decide +kernel
theorem dX5_clash_167 : decode cX5_clash 167 = .ok (.iload_n 3, 1) := by decide +kernel
theorem dX5_clash_168 : decode cX5_clash 168 = .ok (.iastore, 1) := by decide +kernel
theorem dX5_clash_169 : decode cX5_clash 169 = .ok (.aload_n 0, 1) := by decide +kernel
theorem dX5_clash_170 : decode cX5_clash 170 = .ok (.dup, 1) := by decide +kernel
theorem dX5_clash_171 : decode cX5_clash 171 = .ok (.getfield 184, 3) := by decide +kernel
theorem dX5_clash_174 : decode cX5_clash 174 = .ok (.iconst 1, 1) := by decide +kernel
theorem dX5_clash_175 : decode cX5_clash 175 = .ok (.iadd, 1) := by decide +kernel
theorem dX5_clash_176 : decode cX5_clash 176 = .ok (.putfield 184, 3) := by decide +kernel
theorem dX5_clash_179 : decode cX5_clash 179 = .ok (.aload_n 0, 1) := by decide +kernel
theorem dX5_clash_180 : decode cX5_clash 180 = .ok (.getfield 34, 3) := by decide +kernel
theorem dX5_clash_183 : decode cX5_clash 183 = .ok (.bipush 12, 2) := by decide +kernel
theorem dX5_clash_185 : decode cX5_clash 185 = .ok (.iload_n 1, 1) := by decide +kernel
theorem dX5_clash_186 : decode cX5_clash 186 = .ok (.imul, 1) := by decide +kernel
theorem dX5_clash_187 : decode cX5_clash 187 = .ok (.iload_n 3, 1) := by decide +kernel
theorem dX5_clash_188 : decode cX5_clash 188 = .ok (.iadd, 1) := by decide +kernel
theorem dX5_clash_189 : decode cX5_clash 189 = .ok (.aload_n 2, 1) := by decide +kernel
theorem dX5_clash_190 : decode cX5_clash 190 = .ok (.iload_n 3, 1) := by decide +kernel
theorem dX5_clash_191 : decode cX5_clash 191 = .ok (.iaload, 1) := by decide +kernel
theorem dX5_clash_192 : decode cX5_clash 192 = .ok (.iastore, 1) := by decide +kernel
theorem dX5_clash_193 : decode cX5_clash 193 = .ok (.iinc 3 1, 3) := by decide +kernel
theorem dX5_clash_196 : decode cX5_clash 196 = .ok (.goto (-61), 3) := by decide +kernel
theorem dX5_clash_199 : decode cX5_clash 199 = .ok (.aload_n 0, 1) := by decide +kernel
theorem dX5_clash_200 : decode cX5_clash 200 = .ok (.getfield 184, 3) := by decide +kernel
theorem dX5_clash_203 : decode cX5_clash 203 = .ok (.ireturn, 1) := by decide +kernel
theorem dX5_inClash_0 : decode cX5_inClash 0 = .ok (.iload_n 1, 1) := by decide +kernel
theorem dX5_inClash_1 : decode cX5_inClash 1 = .ok (.ifCond .lt 20, 3) := by decide +kernel
theorem dX5_inClash_4 : decode cX5_inClash 4 = .ok (.iload_n 1, 1) := by decide +kernel
theorem dX5_inClash_5 : decode cX5_inClash 5 = .ok (.aload_n 0, 1) := by decide +kernel
theorem dX5_inClash_6 : decode cX5_inClash 6 = .ok (.getfield 184, 3) := by decide +kernel
theorem dX5_inClash_9 : decode cX5_inClash 9 = .ok (.if_icmp .ge 12, 3) := by decide +kernel
theorem dX5_inClash_12 : decode cX5_inClash 12 = .ok (.aload_n 0, 1) := by decide +kernel
theorem dX5_inClash_13 : decode cX5_inClash 13 = .ok (.getfield 69, 3) := by decide +kernel
theorem dX5_inClash_16 : decode cX5_inClash 16 = .ok (.iload_n 1, 1) := by decide +kernel
theorem dX5_inClash_17 : decode cX5_inClash 17 = .ok (.iaload, 1) := by decide +kernel
theorem dX5_inClash_18 : decode cX5_inClash 18 = .ok (.goto 4, 3) := by decide +kernel
theorem dX5_inClash_21 : decode cX5_inClash 21 = .ok (.iconst (-1), 1) := by decide +kernel
theorem dX5_inClash_22 : decode cX5_inClash 22 = .ok (.ireturn, 1) := by decide +kernel
theorem dX5_gapsOf_0 : decode cX5_gapsOf 0 = .ok (.iload_n 2, 1) := by decide +kernel
theorem dX5_gapsOf_1 : decode cX5_gapsOf 1 = .ok (.ifCond .eq 12, 3) := by decide +kernel
theorem dX5_gapsOf_4 : decode cX5_gapsOf 4 = .ok (.aload_n 0, 1) := by decide +kernel
theorem dX5_gapsOf_5 : decode cX5_gapsOf 5 = .ok (.getfield 16, 3) := by decide +kernel
theorem dX5_gapsOf_8 : decode cX5_gapsOf 8 = .ok (.iload_n 1, 1) := by decide +kernel
theorem dX5_gapsOf_9 : decode cX5_gapsOf 9 = .ok (.iaload, 1) := by decide +kernel
theorem dX5_gapsOf_10 : decode cX5_gapsOf 10 = .ok (.goto 9, 3) := by decide +kernel
theorem dX5_gapsOf_13 : decode cX5_gapsOf 13 = .ok (.aload_n 0, 1) := by decide +kernel
theorem dX5_gapsOf_14 : decode cX5_gapsOf 14 = .ok (.getfield 19, 3) := by decide +kernel
theorem dX5_gapsOf_17 : decode cX5_gapsOf 17 = .ok (.iload_n 1, 1) := by decide +kernel
theorem dX5_gapsOf_18 : decode cX5_gapsOf 18 = .ok (.iaload, 1) := by decide +kernel
theorem dX5_gapsOf_19 : decode cX5_gapsOf 19 = .ok (.iconst 1, 1) := by decide +kernel
theorem dX5_gapsOf_20 : decode cX5_gapsOf 20 = .ok (.isub, 1) := by decide +kernel
theorem dX5_gapsOf_21 : decode cX5_gapsOf 21 = .ok (.ireturn, 1) := by decide +kernel
theorem dX5_lengthOf_0 : decode cX5_lengthOf 0 = .ok (.aload_n 0, 1) := by decide +kernel
theorem dX5_lengthOf_1 : decode cX5_lengthOf 1 = .ok (.getfield 7, 3) := by decide +kernel
theorem dX5_lengthOf_4 : decode cX5_lengthOf 4 = .ok (.iload_n 1, 1) := by decide +kernel
theorem dX5_lengthOf_5 : decode cX5_lengthOf 5 = .ok (.iaload, 1) := by decide +kernel
theorem dX5_lengthOf_6 : decode cX5_lengthOf 6 = .ok (.iconst 2, 1) := by decide +kernel
theorem dX5_lengthOf_7 : decode cX5_lengthOf 7 = .ok (.if_icmp .ne 7, 3) := by decide +kernel
theorem dX5_lengthOf_10 : decode cX5_lengthOf 10 = .ok (.iconst 1, 1) := by decide +kernel
theorem dX5_lengthOf_11 : decode cX5_lengthOf 11 = .ok (.goto 14, 3) := by decide +kernel
theorem dX5_lengthOf_14 : decode cX5_lengthOf 14 = .ok (.aload_n 0, 1) := by decide +kernel
theorem dX5_lengthOf_15 : decode cX5_lengthOf 15 = .ok (.getfield 25, 3) := by decide +kernel
theorem dX5_lengthOf_18 : decode cX5_lengthOf 18 = .ok (.bipush 9, 2) := by decide +kernel
theorem dX5_lengthOf_20 : decode cX5_lengthOf 20 = .ok (.iload_n 1, 1) := by decide +kernel
theorem dX5_lengthOf_21 : decode cX5_lengthOf 21 = .ok (.imul, 1) := by decide +kernel
theorem dX5_lengthOf_22 : decode cX5_lengthOf 22 = .ok (.iload_n 2, 1) := by decide +kernel
theorem dX5_lengthOf_23 : decode cX5_lengthOf 23 = .ok (.iadd, 1) := by decide +kernel
theorem dX5_lengthOf_24 : decode cX5_lengthOf 24 = .ok (.iaload, 1) := by decide +kernel
theorem dX5_lengthOf_25 : decode cX5_lengthOf 25 = .ok (.ireturn, 1) := by decide +kernel
theorem dX5_goesUp_0 : decode cX5_goesUp 0 = .ok (.iconst 1, 1) := by decide +kernel
theorem dX5_goesUp_1 : decode cX5_goesUp 1 = .ok (.istore_n 2, 1) := by decide +kernel
theorem dX5_goesUp_2 : decode cX5_goesUp 2 = .ok (.iconst 0, 1) := by decide +kernel
theorem dX5_goesUp_3 : decode cX5_goesUp 3 = .ok (.istore_n 3, 1) := by decide +kernel
theorem dX5_goesUp_4 : decode cX5_goesUp 4 = .ok (.iload_n 3, 1) := by decide +kernel
theorem dX5_goesUp_5 : decode cX5_goesUp 5 = .ok (.iload_n 1, 1) := by decide +kernel
theorem dX5_goesUp_6 : decode cX5_goesUp 6 = .ok (.if_icmp .ge 26, 3) := by decide +kernel
theorem dX5_goesUp_9 : decode cX5_goesUp 9 = .ok (.iload_n 2, 1) := by decide +kernel
theorem dX5_goesUp_10 : decode cX5_goesUp 10 = .ok (.iload_n 0, 1) := by decide +kernel
theorem dX5_goesUp_11 : decode cX5_goesUp 11 = .ok (.iload_n 3, 1) := by decide +kernel
theorem dX5_goesUp_12 : decode cX5_goesUp 12 = .ok (.ishr, 1) := by decide +kernel
theorem dX5_goesUp_13 : decode cX5_goesUp 13 = .ok (.iconst 1, 1) := by decide +kernel
theorem dX5_goesUp_14 : decode cX5_goesUp 14 = .ok (.iand, 1) := by decide +kernel
theorem dX5_goesUp_15 : decode cX5_goesUp 15 = .ok (.iconst 1, 1) := by decide +kernel
theorem dX5_goesUp_16 : decode cX5_goesUp 16 = .ok (.if_icmp .ne 7, 3) := by decide +kernel
theorem dX5_goesUp_19 : decode cX5_goesUp 19 = .ok (.iconst 1, 1) := by decide +kernel
theorem dX5_goesUp_20 : decode cX5_goesUp 20 = .ok (.goto 4, 3) := by decide +kernel
theorem dX5_goesUp_23 : decode cX5_goesUp 23 = .ok (.iconst 0, 1) := by decide +kernel
theorem dX5_goesUp_24 : decode cX5_goesUp 24 = .ok (.ixor, 1) := by decide +kernel
theorem dX5_goesUp_25 : decode cX5_goesUp 25 = .ok (.istore_n 2, 1) := by decide +kernel
theorem dX5_goesUp_26 : decode cX5_goesUp 26 = .ok (.iinc 3 1, 3) := by decide +kernel
theorem dX5_goesUp_29 : decode cX5_goesUp 29 = .ok (.goto (-25), 3) := by decide +kernel
theorem dX5_goesUp_32 : decode cX5_goesUp 32 = .ok (.iload_n 2, 1) := by decide +kernel
theorem dX5_goesUp_33 : decode cX5_goesUp 33 = .ok (.ireturn, 1) := by decide +kernel
theorem dX5_liesAt_0 : decode cX5_liesAt 0 = .ok (.iconst 0, 1) := by decide +kernel
theorem dX5_liesAt_1 : decode cX5_liesAt 1 = .ok (.istore 4, 2) := by decide +kernel
theorem dX5_liesAt_3 : decode cX5_liesAt 3 = .ok (.iconst 0, 1) := by decide +kernel
theorem dX5_liesAt_4 : decode cX5_liesAt 4 = .ok (.istore 5, 2) := by decide +kernel
theorem dX5_liesAt_6 : decode cX5_liesAt 6 = .ok (.iload 5, 2) := by decide +kernel
theorem dX5_liesAt_8 : decode cX5_liesAt 8 = .ok (.iload_n 3, 1) := by decide +kernel
theorem dX5_liesAt_9 : decode cX5_liesAt 9 = .ok (.if_icmp .ge 41, 3) := by decide +kernel
theorem dX5_liesAt_12 : decode cX5_liesAt 12 = .ok (.iload 4, 2) := by decide +kernel
theorem dX5_liesAt_14 : decode cX5_liesAt 14 = .ok (.iload_n 2, 1) := by decide +kernel
theorem dX5_liesAt_15 : decode cX5_liesAt 15 = .ok (.iload 5, 2) := by decide +kernel
theorem dX5_liesAt_17 : decode cX5_liesAt 17 = .ok (.invokestatic 190, 3) := by decide +kernel
theorem dX5_liesAt_20 : decode cX5_liesAt 20 = .ok (.ifCond .eq 13, 3) := by decide +kernel
theorem dX5_liesAt_23 : decode cX5_liesAt 23 = .ok (.aload_n 0, 1) := by decide +kernel
theorem dX5_liesAt_24 : decode cX5_liesAt 24 = .ok (.iload_n 1, 1) := by decide +kernel
theorem dX5_liesAt_25 : decode cX5_liesAt 25 = .ok (.iload 5, 2) := by decide +kernel
theorem dX5_liesAt_27 : decode cX5_liesAt 27 = .ok (.invokevirtual 193, 3) := by decide +kernel
theorem dX5_liesAt_30 : decode cX5_liesAt 30 = .ok (.goto 11, 3) := by decide +kernel
theorem dX5_liesAt_33 : decode cX5_liesAt 33 = .ok (.aload_n 0, 1) := by decide +kernel
theorem dX5_liesAt_34 : decode cX5_liesAt 34 = .ok (.iload_n 1, 1) := by decide +kernel
theorem dX5_liesAt_35 : decode cX5_liesAt 35 = .ok (.iload 5, 2) := by decide +kernel
theorem dX5_liesAt_37 : decode cX5_liesAt 37 = .ok (.invokevirtual 193, 3) := by decide +kernel
theorem dX5_liesAt_40 : decode cX5_liesAt 40 = .ok (.ineg, 1) := by decide +kernel
theorem dX5_liesAt_41 : decode cX5_liesAt 41 = .ok (.iadd, 1) := by decide +kernel
theorem dX5_liesAt_42 : decode cX5_liesAt 42 = .ok (.istore 4, 2) := by decide +kernel
theorem dX5_liesAt_44 : decode cX5_liesAt 44 = .ok (.iinc 5 1, 3) := by decide +kernel
theorem dX5_liesAt_47 : decode cX5_liesAt 47 = .ok (.goto (-41), 3) := by decide +kernel
theorem dX5_liesAt_50 : decode cX5_liesAt 50 = .ok (.iload 4, 2) := by decide +kernel
theorem dX5_liesAt_52 : decode cX5_liesAt 52 = .ok (.ireturn, 1) := by decide +kernel
theorem dX5_done_0 : decode cX5_done 0 = .ok (.iload 4, 2) := by decide +kernel
theorem dX5_done_2 : decode cX5_done 2 = .ok (.iconst 2, 1) := by decide +kernel
theorem dX5_done_3 : decode cX5_done 3 = .ok (.iand, 1) := by decide +kernel
theorem dX5_done_4 : decode cX5_done 4 = .ok (.ifCond .eq 7, 3) := by decide +kernel
theorem dX5_done_7 : decode cX5_done 7 = .ok (.iconst 1, 1) := by decide +kernel
theorem dX5_done_8 : decode cX5_done 8 = .ok (.goto 4, 3) := by decide +kernel
theorem dX5_done_11 : decode cX5_done 11 = .ok (.iconst 0, 1) := by decide +kernel
theorem dX5_done_12 : decode cX5_done 12 = .ok (.istore 5, 2) := by decide +kernel
theorem dX5_done_14 : decode cX5_done 14 = .ok (.iload 4, 2) := by decide +kernel
theorem dX5_done_16 : decode cX5_done 16 = .ok (.iconst 1, 1) := by decide +kernel
theorem dX5_done_17 : decode cX5_done 17 = .ok (.iand, 1) := by decide +kernel
theorem dX5_done_18 : decode cX5_done 18 = .ok (.ifCond .eq 7, 3) := by decide +kernel
theorem dX5_done_21 : decode cX5_done 21 = .ok (.iconst 1, 1) := by decide +kernel
theorem dX5_done_22 : decode cX5_done 22 = .ok (.goto 4, 3) := by decide +kernel
theorem dX5_done_25 : decode cX5_done 25 = .ok (.iconst 0, 1) := by decide +kernel
theorem dX5_done_26 : decode cX5_done 26 = .ok (.istore 6, 2) := by decide +kernel
theorem dX5_done_28 : decode cX5_done 28 = .ok (.iload 4, 2) := by decide +kernel
theorem dX5_done_30 : decode cX5_done 30 = .ok (.iconst 2, 1) := by decide +kernel
theorem dX5_done_31 : decode cX5_done 31 = .ok (.ishr, 1) := by decide +kernel
theorem dX5_done_32 : decode cX5_done 32 = .ok (.istore 7, 2) := by decide +kernel
theorem dX5_done_34 : decode cX5_done 34 = .ok (.iload 5, 2) := by decide +kernel
theorem dX5_done_36 : decode cX5_done 36 = .ok (.ifCond .eq 15, 3) := by decide +kernel
theorem dX5_done_39 : decode cX5_done 39 = .ok (.aload_n 0, 1) := by decide +kernel
theorem dX5_done_40 : decode cX5_done 40 = .ok (.getfield 7, 3) := by decide +kernel
theorem dX5_done_43 : decode cX5_done 43 = .ok (.iload_n 1, 1) := by decide +kernel
theorem dX5_done_44 : decode cX5_done 44 = .ok (.iaload, 1) := by decide +kernel
theorem dX5_done_45 : decode cX5_done 45 = .ok (.iconst 2, 1) := by decide +kernel
theorem dX5_done_46 : decode cX5_done 46 = .ok (.if_icmp .eq 5, 3) := by decide +kernel
theorem dX5_done_49 : decode cX5_done 49 = .ok (.iconst 0, 1) := by decide +kernel
theorem dX5_done_50 : decode cX5_done 50 = .ok (.ireturn, 1) := by decide +kernel
theorem dX5_done_51 : decode cX5_done 51 = .ok (.iload 5, 2) := by decide +kernel
theorem dX5_done_53 : decode cX5_done 53 = .ok (.ifCond .eq 7, 3) := by decide +kernel
theorem dX5_done_56 : decode cX5_done 56 = .ok (.iload_n 3, 1) := by decide +kernel
theorem dX5_done_57 : decode cX5_done 57 = .ok (.goto 4, 3) := by decide +kernel
theorem dX5_done_60 : decode cX5_done 60 = .ok (.iload_n 2, 1) := by decide +kernel
theorem dX5_done_61 : decode cX5_done 61 = .ok (.istore 8, 2) := by decide +kernel
theorem dX5_done_63 : decode cX5_done 63 = .ok (.aload_n 0, 1) := by decide +kernel
theorem dX5_done_64 : decode cX5_done 64 = .ok (.iload_n 1, 1) := by decide +kernel
theorem dX5_done_65 : decode cX5_done 65 = .ok (.iload 5, 2) := by decide +kernel
theorem dX5_done_67 : decode cX5_done 67 = .ok (.invokevirtual 196, 3) := by decide +kernel
theorem dX5_done_70 : decode cX5_done 70 = .ok (.istore 9, 2) := by decide +kernel
theorem dX5_done_72 : decode cX5_done 72 = .ok (.iconst 0, 1) := by decide +kernel
theorem dX5_done_73 : decode cX5_done 73 = .ok (.istore 10, 2) := by decide +kernel
theorem dX5_done_75 : decode cX5_done 75 = .ok (.iconst 0, 1) := by decide +kernel
theorem dX5_done_76 : decode cX5_done 76 = .ok (.istore 11, 2) := by decide +kernel
theorem dX5_done_78 : decode cX5_done 78 = .ok (.iload 11, 2) := by decide +kernel
theorem dX5_done_80 : decode cX5_done 80 = .ok (.iload 9, 2) := by decide +kernel
theorem dX5_done_82 : decode cX5_done 82 = .ok (.if_icmp .ge 44, 3) := by decide +kernel
theorem dX5_done_85 : decode cX5_done 85 = .ok (.iload 8, 2) := by decide +kernel
theorem dX5_done_87 : decode cX5_done 87 = .ok (.iload 11, 2) := by decide +kernel
theorem dX5_done_89 : decode cX5_done 89 = .ok (.ishr, 1) := by decide +kernel
theorem dX5_done_90 : decode cX5_done 90 = .ok (.iconst 1, 1) := by decide +kernel
theorem dX5_done_91 : decode cX5_done 91 = .ok (.iand, 1) := by decide +kernel
theorem dX5_done_92 : decode cX5_done 92 = .ok (.ifCond .ne 28, 3) := by decide +kernel
theorem dX5_done_95 : decode cX5_done 95 = .ok (.aload_n 0, 1) := by decide +kernel
theorem dX5_done_96 : decode cX5_done 96 = .ok (.iload_n 1, 1) := by decide +kernel
theorem dX5_done_97 : decode cX5_done 97 = .ok (.iload 8, 2) := by decide +kernel
theorem dX5_done_99 : decode cX5_done 99 = .ok (.iload 11, 2) := by decide +kernel
theorem dX5_done_101 : decode cX5_done 101 = .ok (.iconst 1, 1) := by decide +kernel
theorem dX5_done_102 : decode cX5_done 102 = .ok (.iadd, 1) := by decide +kernel
theorem dX5_done_103 : decode cX5_done 103 = .ok (.invokevirtual 200, 3) := by decide +kernel
theorem dX5_done_106 : decode cX5_done 106 = .ok (.iload 7, 2) := by decide +kernel
theorem dX5_done_108 : decode cX5_done 108 = .ok (.if_icmp .ne 12, 3) := by decide +kernel
theorem dX5_done_111 : decode cX5_done 111 = .ok (.iload 10, 2) := by decide +kernel
theorem dX5_done_113 : decode cX5_done 113 = .ok (.iconst 1, 1) := by decide +kernel
theorem dX5_done_114 : decode cX5_done 114 = .ok (.iload 11, 2) := by decide +kernel
theorem dX5_done_116 : decode cX5_done 116 = .ok (.ishl, 1) := by decide +kernel
theorem dX5_done_117 : decode cX5_done 117 = .ok (.ior, 1) := by decide +kernel
theorem dX5_done_118 : decode cX5_done 118 = .ok (.istore 10, 2) := by decide +kernel
theorem dX5_done_120 : decode cX5_done 120 = .ok (.iinc 11 1, 3) := by decide +kernel
theorem dX5_done_123 : decode cX5_done 123 = .ok (.goto (-45), 3) := by decide +kernel
theorem dX5_done_126 : decode cX5_done 126 = .ok (.iconst 0, 1) := by decide +kernel
theorem dX5_done_127 : decode cX5_done 127 = .ok (.istore 11, 2) := by decide +kernel
theorem dX5_done_129 : decode cX5_done 129 = .ok (.iload 11, 2) := by decide +kernel
theorem dX5_done_131 : decode cX5_done 131 = .ok (.iload 9, 2) := by decide +kernel
theorem dX5_done_133 : decode cX5_done 133 = .ok (.if_icmp .gt 68, 3) := by decide +kernel
theorem dX5_done_136 : decode cX5_done 136 = .ok (.aload_n 0, 1) := by decide +kernel
theorem dX5_done_137 : decode cX5_done 137 = .ok (.getfield 7, 3) := by decide +kernel
theorem dX5_done_140 : decode cX5_done 140 = .ok (.iload_n 1, 1) := by decide +kernel
theorem dX5_done_141 : decode cX5_done 141 = .ok (.iaload, 1) := by decide +kernel
theorem dX5_done_142 : decode cX5_done 142 = .ok (.ifCond .ne 59, 3) := by decide +kernel
theorem dX5_done_145 : decode cX5_done 145 = .ok (.aload_n 0, 1) := by decide +kernel
theorem dX5_done_146 : decode cX5_done 146 = .ok (.iload_n 1, 1) := by decide +kernel
theorem dX5_done_147 : decode cX5_done 147 = .ok (.iload 8, 2) := by decide +kernel
theorem dX5_done_149 : decode cX5_done 149 = .ok (.iload 11, 2) := by decide +kernel
theorem dX5_done_151 : decode cX5_done 151 = .ok (.invokevirtual 200, 3) := by decide +kernel
theorem dX5_done_154 : decode cX5_done 154 = .ok (.istore 12, 2) := by decide +kernel
theorem dX5_done_156 : decode cX5_done 156 = .ok (.aload_n 0, 1) := by decide +kernel
theorem dX5_done_157 : decode cX5_done 157 = .ok (.iload_n 1, 1) := by decide +kernel
theorem dX5_done_158 : decode cX5_done 158 = .ok (.iload 8, 2) := by decide +kernel
theorem dX5_done_160 : decode cX5_done 160 = .ok (.iload 11, 2) := by decide +kernel
theorem dX5_done_162 : decode cX5_done 162 = .ok (.iconst 1, 1) := by decide +kernel
theorem dX5_done_163 : decode cX5_done 163 = .ok (.iadd, 1) := by decide +kernel
theorem dX5_done_164 : decode cX5_done 164 = .ok (.invokevirtual 200, 3) := by decide +kernel
theorem dX5_done_167 : decode cX5_done 167 = .ok (.istore 13, 2) := by decide +kernel
theorem dX5_done_169 : decode cX5_done 169 = .ok (.iload 7, 2) := by decide +kernel
theorem dX5_done_171 : decode cX5_done 171 = .ok (.iload 12, 2) := by decide +kernel
theorem dX5_done_173 : decode cX5_done 173 = .ok (.iload 13, 2) := by decide +kernel
theorem dX5_done_175 : decode cX5_done 175 = .ok (.invokestatic 127, 3) := by decide +kernel
theorem dX5_done_178 : decode cX5_done 178 = .ok (.if_icmp .le 17, 3) := by decide +kernel
theorem dX5_done_181 : decode cX5_done 181 = .ok (.iload 7, 2) := by decide +kernel
theorem dX5_done_183 : decode cX5_done 183 = .ok (.iload 12, 2) := by decide +kernel
theorem dX5_done_185 : decode cX5_done 185 = .ok (.iload 13, 2) := by decide +kernel
theorem dX5_done_187 : decode cX5_done 187 = .ok (.invokestatic 130, 3) := by decide +kernel
theorem dX5_done_190 : decode cX5_done 190 = .ok (.if_icmp .ge 5, 3) := by decide +kernel
theorem dX5_done_193 : decode cX5_done 193 = .ok (.iconst 0, 1) := by decide +kernel
theorem dX5_done_194 : decode cX5_done 194 = .ok (.ireturn, 1) := by decide +kernel
theorem dX5_done_195 : decode cX5_done 195 = .ok (.iinc 11 1, 3) := by decide +kernel
theorem dX5_done_198 : decode cX5_done 198 = .ok (.goto (-69), 3) := by decide +kernel
theorem dX5_done_201 : decode cX5_done 201 = .ok (.iconst 0, 1) := by decide +kernel
theorem dX5_done_202 : decode cX5_done 202 = .ok (.istore 11, 2) := by decide +kernel
theorem dX5_done_204 : decode cX5_done 204 = .ok (.iload 11, 2) := by decide +kernel
theorem dX5_done_206 : decode cX5_done 206 = .ok (.aload_n 0, 1) := by decide +kernel
theorem dX5_done_207 : decode cX5_done 207 = .ok (.getfield 22, 3) := by decide +kernel
theorem dX5_done_210 : decode cX5_done 210 = .ok (.iload_n 1, 1) := by decide +kernel
theorem dX5_done_211 : decode cX5_done 211 = .ok (.iaload, 1) := by decide +kernel
theorem dX5_done_212 : decode cX5_done 212 = .ok (.if_icmp .ge 202, 3) := by decide +kernel
theorem dX5_done_215 : decode cX5_done 215 = .ok (.aload_n 0, 1) := by decide +kernel
theorem dX5_done_216 : decode cX5_done 216 = .ok (.getfield 7, 3) := by decide +kernel
theorem dX5_done_219 : decode cX5_done 219 = .ok (.iload_n 1, 1) := by decide +kernel
theorem dX5_done_220 : decode cX5_done 220 = .ok (.iaload, 1) := by decide +kernel
theorem dX5_done_221 : decode cX5_done 221 = .ok (.iconst 2, 1) := by decide +kernel
theorem dX5_done_222 : decode cX5_done 222 = .ok (.if_icmp .ne 27, 3) := by decide +kernel
theorem dX5_done_225 : decode cX5_done 225 = .ok (.iload 11, 2) := by decide +kernel
theorem dX5_done_227 : decode cX5_done 227 = .ok (.aload_n 0, 1) := by decide +kernel
theorem dX5_done_228 : decode cX5_done 228 = .ok (.getfield 16, 3) := by decide +kernel
theorem dX5_done_231 : decode cX5_done 231 = .ok (.iload_n 1, 1) := by decide +kernel
theorem dX5_done_232 : decode cX5_done 232 = .ok (.iaload, 1) := by decide +kernel
theorem dX5_done_233 : decode cX5_done 233 = .ok (.aload_n 0, 1) := by decide +kernel
theorem dX5_done_234 : decode cX5_done 234 = .ok (.getfield 19, 3) := by decide +kernel
theorem dX5_done_237 : decode cX5_done 237 = .ok (.iload_n 1, 1) := by decide +kernel
theorem dX5_done_238 : decode cX5_done 238 = .ok (.iaload, 1) := by decide +kernel
theorem dX5_done_239 : decode cX5_done 239 = .ok (.iconst 1, 1) := by decide +kernel
theorem dX5_done_240 : decode cX5_done 240 = .ok (.isub, 1) := by decide +kernel
theorem dX5_done_241 : decode cX5_done 241 = .ok (.imul, 1) := by decide +kernel
theorem dX5_done_242 : decode cX5_done 242 = .ok (.if_icmp .lt 7, 3) := by decide +kernel
theorem dX5_done_245 : decode cX5_done 245 = .ok (.iconst 1, 1) := by decide +kernel
theorem dX5_done_246 : decode cX5_done 246 = .ok (.goto 4, 3) := by decide +kernel
theorem dX5_done_249 : decode cX5_done 249 = .ok (.iconst 0, 1) := by decide +kernel
theorem dX5_done_250 : decode cX5_done 250 = .ok (.istore 12, 2) := by decide +kernel
theorem dX5_done_252 : decode cX5_done 252 = .ok (.aload_n 0, 1) := by decide +kernel
theorem dX5_done_253 : decode cX5_done 253 = .ok (.getfield 28, 3) := by decide +kernel
theorem dX5_done_256 : decode cX5_done 256 = .ok (.bipush 12, 2) := by decide +kernel
theorem dX5_done_258 : decode cX5_done 258 = .ok (.iload_n 1, 1) := by decide +kernel
theorem dX5_done_259 : decode cX5_done 259 = .ok (.imul, 1) := by decide +kernel
theorem dX5_done_260 : decode cX5_done 260 = .ok (.iload 11, 2) := by decide +kernel
theorem dX5_done_262 : decode cX5_done 262 = .ok (.iadd, 1) := by decide +kernel
theorem dX5_done_263 : decode cX5_done 263 = .ok (.iaload, 1) := by decide +kernel
theorem dX5_done_264 : decode cX5_done 264 = .ok (.istore 13, 2) := by decide +kernel
theorem dX5_done_266 : decode cX5_done 266 = .ok (.iload 12, 2) := by decide +kernel
theorem dX5_done_268 : decode cX5_done 268 = .ok (.ifCond .eq 15, 3) := by decide +kernel
theorem dX5_done_271 : decode cX5_done 271 = .ok (.iload 13, 2) := by decide +kernel
theorem dX5_done_273 : decode cX5_done 273 = .ok (.aload_n 0, 1) := by decide +kernel
theorem dX5_done_274 : decode cX5_done 274 = .ok (.getfield 19, 3) := by decide +kernel
theorem dX5_done_277 : decode cX5_done 277 = .ok (.iload_n 1, 1) := by decide +kernel
theorem dX5_done_278 : decode cX5_done 278 = .ok (.iaload, 1) := by decide +kernel
theorem dX5_done_279 : decode cX5_done 279 = .ok (.idiv, 1) := by decide +kernel
theorem dX5_done_280 : decode cX5_done 280 = .ok (.goto 12, 3) := by decide +kernel
theorem dX5_done_283 : decode cX5_done 283 = .ok (.iload 13, 2) := by decide +kernel
theorem dX5_done_285 : decode cX5_done 285 = .ok (.aload_n 0, 1) := by decide +kernel
theorem dX5_done_286 : decode cX5_done 286 = .ok (.getfield 19, 3) := by decide +kernel
theorem dX5_done_289 : decode cX5_done 289 = .ok (.iload_n 1, 1) := by decide +kernel
theorem dX5_done_290 : decode cX5_done 290 = .ok (.iaload, 1) := by decide +kernel
theorem dX5_done_291 : decode cX5_done 291 = .ok (.irem, 1) := by decide +kernel
theorem dX5_done_292 : decode cX5_done 292 = .ok (.istore 14, 2) := by decide +kernel
theorem dX5_done_294 : decode cX5_done 294 = .ok (.iload 12, 2) := by decide +kernel
theorem dX5_done_296 : decode cX5_done 296 = .ok (.iload 5, 2) := by decide +kernel
theorem dX5_done_298 : decode cX5_done 298 = .ok (.if_icmp .ne 110, 3) := by decide +kernel
theorem dX5_done_301 : decode cX5_done 301 = .ok (.iload 10, 2) := by decide +kernel
theorem dX5_done_303 : decode cX5_done 303 = .ok (.iload 14, 2) := by decide +kernel
theorem dX5_done_305 : decode cX5_done 305 = .ok (.ishr, 1) := by decide +kernel
theorem dX5_done_306 : decode cX5_done 306 = .ok (.iconst 1, 1) := by decide +kernel
theorem dX5_done_307 : decode cX5_done 307 = .ok (.iand, 1) := by decide +kernel
theorem dX5_done_308 : decode cX5_done 308 = .ok (.iconst 1, 1) := by decide +kernel
theorem dX5_done_309 : decode cX5_done 309 = .ok (.if_icmp .ne 99, 3) := by decide +kernel
theorem dX5_done_312 : decode cX5_done 312 = .ok (.iload_n 2, 1) := by decide +kernel
theorem dX5_done_313 : decode cX5_done 313 = .ok (.iload 13, 2) := by decide +kernel
theorem dX5_done_315 : decode cX5_done 315 = .ok (.aload_n 0, 1) := by decide +kernel
theorem dX5_done_316 : decode cX5_done 316 = .ok (.getfield 19, 3) := by decide +kernel
theorem dX5_done_319 : decode cX5_done 319 = .ok (.iload_n 1, 1) := by decide +kernel
theorem dX5_done_320 : decode cX5_done 320 = .ok (.iaload, 1) := by decide +kernel
theorem dX5_done_321 : decode cX5_done 321 = .ok (.irem, 1) := by decide +kernel
theorem dX5_done_322 : decode cX5_done 322 = .ok (.invokestatic 190, 3) := by decide +kernel
theorem dX5_done_325 : decode cX5_done 325 = .ok (.aload_n 0, 1) := by decide +kernel
theorem dX5_done_326 : decode cX5_done 326 = .ok (.getfield 7, 3) := by decide +kernel
theorem dX5_done_329 : decode cX5_done 329 = .ok (.iload_n 1, 1) := by decide +kernel
theorem dX5_done_330 : decode cX5_done 330 = .ok (.iaload, 1) := by decide +kernel
theorem dX5_done_331 : decode cX5_done 331 = .ok (.iconst 2, 1) := by decide +kernel
theorem dX5_done_332 : decode cX5_done 332 = .ok (.if_icmp .ne 19, 3) := by decide +kernel
theorem dX5_done_335 : decode cX5_done 335 = .ok (.iload_n 3, 1) := by decide +kernel
theorem dX5_done_336 : decode cX5_done 336 = .ok (.iload 13, 2) := by decide +kernel
theorem dX5_done_338 : decode cX5_done 338 = .ok (.aload_n 0, 1) := by decide +kernel
theorem dX5_done_339 : decode cX5_done 339 = .ok (.getfield 19, 3) := by decide +kernel
theorem dX5_done_342 : decode cX5_done 342 = .ok (.iload_n 1, 1) := by decide +kernel
theorem dX5_done_343 : decode cX5_done 343 = .ok (.iaload, 1) := by decide +kernel
theorem dX5_done_344 : decode cX5_done 344 = .ok (.idiv, 1) := by decide +kernel
theorem dX5_done_345 : decode cX5_done 345 = .ok (.invokestatic 190, 3) := by decide +kernel
theorem dX5_done_348 : decode cX5_done 348 = .ok (.ifCond .eq 7, 3) := by decide +kernel
theorem dX5_done_351 : decode cX5_done 351 = .ok (.iconst 1, 1) := by decide +kernel
theorem dX5_done_352 : decode cX5_done 352 = .ok (.goto 4, 3) := by decide +kernel
theorem dX5_done_355 : decode cX5_done 355 = .ok (.iconst 0, 1) := by decide +kernel
theorem dX5_done_356 : decode cX5_done 356 = .ok (.if_icmp .ne 7, 3) := by decide +kernel
theorem dX5_done_359 : decode cX5_done 359 = .ok (.iconst 1, 1) := by decide +kernel
theorem dX5_done_360 : decode cX5_done 360 = .ok (.goto 4, 3) := by decide +kernel
theorem dX5_done_363 : decode cX5_done 363 = .ok (.iconst 0, 1) := by decide +kernel
theorem dX5_done_364 : decode cX5_done 364 = .ok (.istore 15, 2) := by decide +kernel
theorem dX5_done_366 : decode cX5_done 366 = .ok (.iload 15, 2) := by decide +kernel
theorem dX5_done_368 : decode cX5_done 368 = .ok (.iload 6, 2) := by decide +kernel
theorem dX5_done_370 : decode cX5_done 370 = .ok (.if_icmp .eq 7, 3) := by decide +kernel
theorem dX5_done_373 : decode cX5_done 373 = .ok (.iconst 2, 1) := by decide +kernel
theorem dX5_done_374 : decode cX5_done 374 = .ok (.goto 4, 3) := by decide +kernel
theorem dX5_done_377 : decode cX5_done 377 = .ok (.iconst 1, 1) := by decide +kernel
theorem dX5_done_378 : decode cX5_done 378 = .ok (.istore 16, 2) := by decide +kernel
theorem dX5_done_380 : decode cX5_done 380 = .ok (.aload_n 0, 1) := by decide +kernel
theorem dX5_done_381 : decode cX5_done 381 = .ok (.getfield 34, 3) := by decide +kernel
theorem dX5_done_384 : decode cX5_done 384 = .ok (.bipush 12, 2) := by decide +kernel
theorem dX5_done_386 : decode cX5_done 386 = .ok (.iload_n 1, 1) := by decide +kernel
theorem dX5_done_387 : decode cX5_done 387 = .ok (.imul, 1) := by decide +kernel
theorem dX5_done_388 : decode cX5_done 388 = .ok (.iload 11, 2) := by decide +kernel
theorem dX5_done_390 : decode cX5_done 390 = .ok (.iadd, 1) := by decide +kernel
theorem dX5_done_391 : decode cX5_done 391 = .ok (.iaload, 1) := by decide +kernel
theorem dX5_done_392 : decode cX5_done 392 = .ok (.istore 17, 2) := by decide +kernel
theorem dX5_done_394 : decode cX5_done 394 = .ok (.iload 17, 2) := by decide +kernel
theorem dX5_done_396 : decode cX5_done 396 = .ok (.ifCond .eq 12, 3) := by decide +kernel
theorem dX5_done_399 : decode cX5_done 399 = .ok (.iload 17, 2) := by decide +kernel
theorem dX5_done_401 : decode cX5_done 401 = .ok (.iload 16, 2) := by decide +kernel
theorem dX5_done_403 : decode cX5_done 403 = .ok (.if_icmp .eq 5, 3) := by decide +kernel
theorem dX5_done_406 : decode cX5_done 406 = .ok (.iconst 0, 1) := by decide +kernel
theorem dX5_done_407 : decode cX5_done 407 = .ok (.ireturn, 1) := by decide +kernel
theorem dX5_done_408 : decode cX5_done 408 = .ok (.iinc 11 1, 3) := by decide +kernel
theorem dX5_done_411 : decode cX5_done 411 = .ok (.goto (-207), 3) := by decide +kernel
theorem dX5_done_414 : decode cX5_done 414 = .ok (.iload 10, 2) := by decide +kernel
theorem dX5_done_416 : decode cX5_done 416 = .ok (.ireturn, 1) := by decide +kernel
theorem dX5_stateOf_0 : decode cX5_stateOf 0 = .ok (.iload_n 1, 1) := by decide +kernel
theorem dX5_stateOf_1 : decode cX5_stateOf 1 = .ok (.iload_n 2, 1) := by decide +kernel
theorem dX5_stateOf_2 : decode cX5_stateOf 2 = .ok (.bipush 8, 2) := by decide +kernel
theorem dX5_stateOf_4 : decode cX5_stateOf 4 = .ok (.ishl, 1) := by decide +kernel
theorem dX5_stateOf_5 : decode cX5_stateOf 5 = .ok (.ior, 1) := by decide +kernel
theorem dX5_stateOf_6 : decode cX5_stateOf 6 = .ok (.ireturn, 1) := by decide +kernel
theorem dX5_simple_0 : decode cX5_simple 0 = .ok (.aload_n 0, 1) := by decide +kernel
theorem dX5_simple_1 : decode cX5_simple 1 = .ok (.iload_n 1, 1) := by decide +kernel
theorem dX5_simple_2 : decode cX5_simple 2 = .ok (.invokevirtual 85, 3) := by decide +kernel
theorem dX5_simple_5 : decode cX5_simple 5 = .ok (.ifCond .ne 6, 3) := by decide +kernel
theorem dX5_simple_8 : decode cX5_simple 8 = .ok (.bipush (-101), 2) := by decide +kernel
theorem dX5_simple_10 : decode cX5_simple 10 = .ok (.ireturn, 1) := by decide +kernel
theorem dX5_simple_11 : decode cX5_simple 11 = .ok (.aload_n 0, 1) := by decide +kernel
theorem dX5_simple_12 : decode cX5_simple 12 = .ok (.getfield 7, 3) := by decide +kernel
theorem dX5_simple_15 : decode cX5_simple 15 = .ok (.iload_n 1, 1) := by decide +kernel
theorem dX5_simple_16 : decode cX5_simple 16 = .ok (.iaload, 1) := by decide +kernel
theorem dX5_simple_17 : decode cX5_simple 17 = .ok (.iconst 1, 1) := by decide +kernel
theorem dX5_simple_18 : decode cX5_simple 18 = .ok (.if_icmp .ne 6, 3) := by decide +kernel
theorem dX5_simple_21 : decode cX5_simple 21 = .ok (.bipush (-103), 2) := by decide +kernel
theorem dX5_simple_23 : decode cX5_simple 23 = .ok (.ireturn, 1) := by decide +kernel
theorem dX5_simple_24 : decode cX5_simple 24 = .ok (.iconst 1, 1) := by decide +kernel
theorem dX5_simple_25 : decode cX5_simple 25 = .ok (.aload_n 0, 1) := by decide +kernel
theorem dX5_simple_26 : decode cX5_simple 26 = .ok (.iload_n 1, 1) := by decide +kernel
theorem dX5_simple_27 : decode cX5_simple 27 = .ok (.iconst 0, 1) := by decide +kernel
theorem dX5_simple_28 : decode cX5_simple 28 = .ok (.invokevirtual 196, 3) := by decide +kernel
theorem dX5_simple_31 : decode cX5_simple 31 = .ok (.ishl, 1) := by decide +kernel
theorem dX5_simple_32 : decode cX5_simple 32 = .ok (.iconst 1, 1) := by decide +kernel
theorem dX5_simple_33 : decode cX5_simple 33 = .ok (.isub, 1) := by decide +kernel
theorem dX5_simple_34 : decode cX5_simple 34 = .ok (.istore_n 2, 1) := by decide +kernel
theorem dX5_simple_35 : decode cX5_simple 35 = .ok (.iconst 1, 1) := by decide +kernel
theorem dX5_simple_36 : decode cX5_simple 36 = .ok (.aload_n 0, 1) := by decide +kernel
theorem dX5_simple_37 : decode cX5_simple 37 = .ok (.iload_n 1, 1) := by decide +kernel
theorem dX5_simple_38 : decode cX5_simple 38 = .ok (.iconst 1, 1) := by decide +kernel
theorem dX5_simple_39 : decode cX5_simple 39 = .ok (.invokevirtual 196, 3) := by decide +kernel
theorem dX5_simple_42 : decode cX5_simple 42 = .ok (.ishl, 1) := by decide +kernel
theorem dX5_simple_43 : decode cX5_simple 43 = .ok (.iconst 1, 1) := by decide +kernel
theorem dX5_simple_44 : decode cX5_simple 44 = .ok (.isub, 1) := by decide +kernel
theorem dX5_simple_45 : decode cX5_simple 45 = .ok (.istore_n 3, 1) := by decide +kernel
theorem dX5_simple_46 : decode cX5_simple 46 = .ok (.iload_n 3, 1) := by decide +kernel
theorem dX5_simple_47 : decode cX5_simple 47 = .ok (.istore 4, 2) := by decide +kernel
theorem dX5_simple_49 : decode cX5_simple 49 = .ok (.iload 4, 2) := by decide +kernel
theorem dX5_simple_51 : decode cX5_simple 51 = .ok (.ifCond .lt 64, 3) := by decide +kernel
theorem dX5_simple_54 : decode cX5_simple 54 = .ok (.iload_n 2, 1) := by decide +kernel
theorem dX5_simple_55 : decode cX5_simple 55 = .ok (.istore 5, 2) := by decide +kernel
theorem dX5_simple_57 : decode cX5_simple 57 = .ok (.iload 5, 2) := by decide +kernel
theorem dX5_simple_59 : decode cX5_simple 59 = .ok (.ifCond .lt 50, 3) := by decide +kernel
theorem dX5_simple_62 : decode cX5_simple 62 = .ok (.aload_n 0, 1) := by decide +kernel
theorem dX5_simple_63 : decode cX5_simple 63 = .ok (.getfield 76, 3) := by decide +kernel
theorem dX5_simple_66 : decode cX5_simple 66 = .ok (.aload_n 0, 1) := by decide +kernel
theorem dX5_simple_67 : decode cX5_simple 67 = .ok (.iload 5, 2) := by decide +kernel
theorem dX5_simple_69 : decode cX5_simple 69 = .ok (.iload 4, 2) := by decide +kernel
theorem dX5_simple_71 : decode cX5_simple 71 = .ok (.invokevirtual 204, 3) := by decide +kernel
theorem dX5_simple_74 : decode cX5_simple 74 = .ok (.iload 5, 2) := by decide +kernel
theorem dX5_simple_76 : decode cX5_simple 76 = .ok (.iload_n 2, 1) := by decide +kernel
theorem dX5_simple_77 : decode cX5_simple 77 = .ok (.if_icmp .ne 13, 3) := by decide +kernel
theorem dX5_simple_80 : decode cX5_simple 80 = .ok (.iload 4, 2) := by decide +kernel
theorem dX5_simple_82 : decode cX5_simple 82 = .ok (.iload_n 3, 1) := by decide +kernel
theorem dX5_simple_83 : decode cX5_simple 83 = .ok (.if_icmp .ne 7, 3) := by decide +kernel
theorem dX5_simple_86 : decode cX5_simple 86 = .ok (.iconst 0, 1) := by decide +kernel
theorem dX5_simple_87 : decode cX5_simple 87 = .ok (.goto 15, 3) := by decide +kernel
theorem dX5_simple_90 : decode cX5_simple 90 = .ok (.aload_n 0, 1) := by decide +kernel
theorem dX5_simple_91 : decode cX5_simple 91 = .ok (.iload_n 1, 1) := by decide +kernel
theorem dX5_simple_92 : decode cX5_simple 92 = .ok (.iload 5, 2) := by decide +kernel
theorem dX5_simple_94 : decode cX5_simple 94 = .ok (.iload 4, 2) := by decide +kernel
theorem dX5_simple_96 : decode cX5_simple 96 = .ok (.iload_n 2, 1) := by decide +kernel
theorem dX5_simple_97 : decode cX5_simple 97 = .ok (.iload_n 3, 1) := by decide +kernel
theorem dX5_simple_98 : decode cX5_simple 98 = .ok (.iconst 0, 1) := by decide +kernel
theorem dX5_simple_99 : decode cX5_simple 99 = .ok (.invokevirtual 207, 3) := by decide +kernel
theorem dX5_simple_102 : decode cX5_simple 102 = .ok (.iastore, 1) := by decide +kernel
theorem dX5_simple_103 : decode cX5_simple 103 = .ok (.iinc 5 (-1), 3) := by decide +kernel
theorem dX5_simple_106 : decode cX5_simple 106 = .ok (.goto (-49), 3) := by decide +kernel
theorem dX5_simple_109 : decode cX5_simple 109 = .ok (.iinc 4 (-1), 3) := by decide +kernel
theorem dX5_simple_112 : decode cX5_simple 112 = .ok (.goto (-63), 3) := by decide +kernel
theorem dX5_simple_115 : decode cX5_simple 115 = .ok (.aload_n 0, 1) := by decide +kernel
theorem dX5_simple_116 : decode cX5_simple 116 = .ok (.getfield 76, 3) := by decide +kernel
theorem dX5_simple_119 : decode cX5_simple 119 = .ok (.iconst 0, 1) := by decide +kernel
theorem dX5_simple_120 : decode cX5_simple 120 = .ok (.iaload, 1) := by decide +kernel
theorem dX5_simple_121 : decode cX5_simple 121 = .ok (.istore 4, 2) := by decide +kernel
theorem dX5_simple_123 : decode cX5_simple 123 = .ok (.iload 4, 2) := by decide +kernel
theorem dX5_simple_125 : decode cX5_simple 125 = .ok (.iconst (-1), 1) := by decide +kernel
theorem dX5_simple_126 : decode cX5_simple 126 = .ok (.if_icmp .ne 5, 3) := by decide +kernel
theorem dX5_simple_129 : decode cX5_simple 129 = .ok (.iconst (-1), 1) := by decide +kernel
theorem dX5_simple_130 : decode cX5_simple 130 = .ok (.ireturn, 1) := by decide +kernel
theorem dX5_simple_131 : decode cX5_simple 131 = .ok (.iconst 0, 1) := by decide +kernel
theorem dX5_simple_132 : decode cX5_simple 132 = .ok (.istore 5, 2) := by decide +kernel
theorem dX5_simple_134 : decode cX5_simple 134 = .ok (.iconst 0, 1) := by decide +kernel
theorem dX5_simple_135 : decode cX5_simple 135 = .ok (.istore 6, 2) := by decide +kernel
theorem dX5_simple_137 : decode cX5_simple 137 = .ok (.aload_n 0, 1) := by decide +kernel
theorem dX5_simple_138 : decode cX5_simple 138 = .ok (.iconst 0, 1) := by decide +kernel
theorem dX5_simple_139 : decode cX5_simple 139 = .ok (.putfield 211, 3) := by decide +kernel
theorem dX5_simple_142 : decode cX5_simple 142 = .ok (.iload 5, 2) := by decide +kernel
theorem dX5_simple_144 : decode cX5_simple 144 = .ok (.iload_n 2, 1) := by decide +kernel
theorem dX5_simple_145 : decode cX5_simple 145 = .ok (.if_icmp .ne 9, 3) := by decide +kernel
theorem dX5_simple_148 : decode cX5_simple 148 = .ok (.iload 6, 2) := by decide +kernel
theorem dX5_simple_150 : decode cX5_simple 150 = .ok (.iload_n 3, 1) := by decide +kernel
theorem dX5_simple_151 : decode cX5_simple 151 = .ok (.if_icmp .eq 90, 3) := by decide +kernel
theorem dX5_simple_154 : decode cX5_simple 154 = .ok (.aload_n 0, 1) := by decide +kernel
theorem dX5_simple_155 : decode cX5_simple 155 = .ok (.iload_n 1, 1) := by decide +kernel
theorem dX5_simple_156 : decode cX5_simple 156 = .ok (.iload 5, 2) := by decide +kernel
theorem dX5_simple_158 : decode cX5_simple 158 = .ok (.iload 6, 2) := by decide +kernel
theorem dX5_simple_160 : decode cX5_simple 160 = .ok (.iload_n 2, 1) := by decide +kernel
theorem dX5_simple_161 : decode cX5_simple 161 = .ok (.iload_n 3, 1) := by decide +kernel
theorem dX5_simple_162 : decode cX5_simple 162 = .ok (.iconst 1, 1) := by decide +kernel
theorem dX5_simple_163 : decode cX5_simple 163 = .ok (.invokevirtual 207, 3) := by decide +kernel
theorem dX5_simple_166 : decode cX5_simple 166 = .ok (.istore 7, 2) := by decide +kernel
theorem dX5_simple_168 : decode cX5_simple 168 = .ok (.aload_n 0, 1) := by decide +kernel
theorem dX5_simple_169 : decode cX5_simple 169 = .ok (.iload_n 1, 1) := by decide +kernel
theorem dX5_simple_170 : decode cX5_simple 170 = .ok (.iload 5, 2) := by decide +kernel
theorem dX5_simple_172 : decode cX5_simple 172 = .ok (.iload 6, 2) := by decide +kernel
theorem dX5_simple_174 : decode cX5_simple 174 = .ok (.iload 7, 2) := by decide +kernel
theorem dX5_simple_176 : decode cX5_simple 176 = .ok (.invokevirtual 214, 3) := by decide +kernel
theorem dX5_simple_179 : decode cX5_simple 179 = .ok (.istore 8, 2) := by decide +kernel
theorem dX5_simple_181 : decode cX5_simple 181 = .ok (.iload 5, 2) := by decide +kernel
theorem dX5_simple_183 : decode cX5_simple 183 = .ok (.iload 7, 2) := by decide +kernel
theorem dX5_simple_185 : decode cX5_simple 185 = .ok (.iconst 2, 1) := by decide +kernel
theorem dX5_simple_186 : decode cX5_simple 186 = .ok (.iand, 1) := by decide +kernel
theorem dX5_simple_187 : decode cX5_simple 187 = .ok (.ifCond .ne 8, 3) := by decide +kernel
theorem dX5_simple_190 : decode cX5_simple 190 = .ok (.iload 8, 2) := by decide +kernel
theorem dX5_simple_192 : decode cX5_simple 192 = .ok (.goto 4, 3) := by decide +kernel
theorem dX5_simple_195 : decode cX5_simple 195 = .ok (.iconst 0, 1) := by decide +kernel
theorem dX5_simple_196 : decode cX5_simple 196 = .ok (.ior, 1) := by decide +kernel
theorem dX5_simple_197 : decode cX5_simple 197 = .ok (.istore 5, 2) := by decide +kernel
theorem dX5_simple_199 : decode cX5_simple 199 = .ok (.iload 6, 2) := by decide +kernel
theorem dX5_simple_201 : decode cX5_simple 201 = .ok (.iload 7, 2) := by decide +kernel
theorem dX5_simple_203 : decode cX5_simple 203 = .ok (.iconst 2, 1) := by decide +kernel
theorem dX5_simple_204 : decode cX5_simple 204 = .ok (.iand, 1) := by decide +kernel
theorem dX5_simple_205 : decode cX5_simple 205 = .ok (.ifCond .eq 8, 3) := by decide +kernel
theorem dX5_simple_208 : decode cX5_simple 208 = .ok (.iload 8, 2) := by decide +kernel
theorem dX5_simple_210 : decode cX5_simple 210 = .ok (.goto 4, 3) := by decide +kernel
theorem dX5_simple_213 : decode cX5_simple 213 = .ok (.iconst 0, 1) := by decide +kernel
theorem dX5_simple_214 : decode cX5_simple 214 = .ok (.ior, 1) := by decide +kernel
theorem dX5_simple_215 : decode cX5_simple 215 = .ok (.istore 6, 2) := by decide +kernel
theorem dX5_simple_217 : decode cX5_simple 217 = .ok (.aload_n 0, 1) := by decide +kernel
theorem dX5_simple_218 : decode cX5_simple 218 = .ok (.getfield 79, 3) := by decide +kernel
theorem dX5_simple_221 : decode cX5_simple 221 = .ok (.aload_n 0, 1) := by decide +kernel
theorem dX5_simple_222 : decode cX5_simple 222 = .ok (.getfield 211, 3) := by decide +kernel
theorem dX5_simple_225 : decode cX5_simple 225 = .ok (.iload 7, 2) := by decide +kernel
theorem dX5_simple_227 : decode cX5_simple 227 = .ok (.iastore, 1) := by decide +kernel
theorem dX5_simple_228 : decode cX5_simple 228 = .ok (.aload_n 0, 1) := by decide +kernel
theorem dX5_simple_229 : decode cX5_simple 229 = .ok (.dup, 1) := by decide +kernel
theorem dX5_simple_230 : decode cX5_simple 230 = .ok (.getfield 211, 3) := by decide +kernel
theorem dX5_simple_233 : decode cX5_simple 233 = .ok (.iconst 1, 1) := by decide +kernel
theorem dX5_simple_234 : decode cX5_simple 234 = .ok (.iadd, 1) := by decide +kernel
theorem dX5_simple_235 : decode cX5_simple 235 = .ok (.putfield 211, 3) := by decide +kernel
theorem dX5_simple_238 : decode cX5_simple 238 = .ok (.goto (-96), 3) := by decide +kernel
theorem dX5_simple_241 : decode cX5_simple 241 = .ok (.iload 4, 2) := by decide +kernel
theorem dX5_simple_243 : decode cX5_simple 243 = .ok (.ireturn, 1) := by decide +kernel
theorem dX5_best_0 : decode cX5_best 0 = .ok (.iconst (-1), 1) := by decide +kernel
theorem dX5_best_1 : decode cX5_best 1 = .ok (.istore 7, 2) := by decide +kernel
theorem dX5_best_3 : decode cX5_best 3 = .ok (.iconst 0, 1) := by decide +kernel
theorem dX5_best_4 : decode cX5_best 4 = .ok (.istore 8, 2) := by decide +kernel
theorem dX5_best_6 : decode cX5_best 6 = .ok (.iconst 0, 1) := by decide +kernel
theorem dX5_best_7 : decode cX5_best 7 = .ok (.istore 9, 2) := by decide +kernel
theorem dX5_best_9 : decode cX5_best 9 = .ok (.iload 9, 2) := by decide +kernel
theorem dX5_best_11 : decode cX5_best 11 = .ok (.aload_n 0, 1) := by decide +kernel
theorem dX5_best_12 : decode cX5_best 12 = .ok (.getfield 7, 3) := by decide +kernel
theorem dX5_best_15 : decode cX5_best 15 = .ok (.iload_n 1, 1) := by decide +kernel
theorem dX5_best_16 : decode cX5_best 16 = .ok (.iaload, 1) := by decide +kernel
theorem dX5_best_17 : decode cX5_best 17 = .ok (.iconst 2, 1) := by decide +kernel
theorem dX5_best_18 : decode cX5_best 18 = .ok (.if_icmp .ne 7, 3) := by decide +kernel
theorem dX5_best_21 : decode cX5_best 21 = .ok (.iconst 2, 1) := by decide +kernel
theorem dX5_best_22 : decode cX5_best 22 = .ok (.goto 4, 3) := by decide +kernel
theorem dX5_best_25 : decode cX5_best 25 = .ok (.iconst 1, 1) := by decide +kernel
theorem dX5_best_26 : decode cX5_best 26 = .ok (.if_icmp .ge 206, 3) := by decide +kernel
theorem dX5_best_29 : decode cX5_best 29 = .ok (.iload 9, 2) := by decide +kernel
theorem dX5_best_31 : decode cX5_best 31 = .ok (.iconst 1, 1) := by decide +kernel
theorem dX5_best_32 : decode cX5_best 32 = .ok (.if_icmp .ne 7, 3) := by decide +kernel
theorem dX5_best_35 : decode cX5_best 35 = .ok (.iload_n 3, 1) := by decide +kernel
theorem dX5_best_36 : decode cX5_best 36 = .ok (.goto 4, 3) := by decide +kernel
theorem dX5_best_39 : decode cX5_best 39 = .ok (.iload_n 2, 1) := by decide +kernel
theorem dX5_best_40 : decode cX5_best 40 = .ok (.istore 10, 2) := by decide +kernel
theorem dX5_best_42 : decode cX5_best 42 = .ok (.iconst 0, 1) := by decide +kernel
theorem dX5_best_43 : decode cX5_best 43 = .ok (.istore 11, 2) := by decide +kernel
theorem dX5_best_45 : decode cX5_best 45 = .ok (.iload 11, 2) := by decide +kernel
theorem dX5_best_47 : decode cX5_best 47 = .ok (.aload_n 0, 1) := by decide +kernel
theorem dX5_best_48 : decode cX5_best 48 = .ok (.iload_n 1, 1) := by decide +kernel
theorem dX5_best_49 : decode cX5_best 49 = .ok (.iload 9, 2) := by decide +kernel
theorem dX5_best_51 : decode cX5_best 51 = .ok (.iconst 1, 1) := by decide +kernel
theorem dX5_best_52 : decode cX5_best 52 = .ok (.if_icmp .ne 7, 3) := by decide +kernel
theorem dX5_best_55 : decode cX5_best 55 = .ok (.iconst 1, 1) := by decide +kernel
theorem dX5_best_56 : decode cX5_best 56 = .ok (.goto 4, 3) := by decide +kernel
theorem dX5_best_59 : decode cX5_best 59 = .ok (.iconst 0, 1) := by decide +kernel
theorem dX5_best_60 : decode cX5_best 60 = .ok (.invokevirtual 196, 3) := by decide +kernel
theorem dX5_best_63 : decode cX5_best 63 = .ok (.if_icmp .ge 163, 3) := by decide +kernel
theorem dX5_best_66 : decode cX5_best 66 = .ok (.iload 10, 2) := by decide +kernel
theorem dX5_best_68 : decode cX5_best 68 = .ok (.iload 11, 2) := by decide +kernel
theorem dX5_best_70 : decode cX5_best 70 = .ok (.ishr, 1) := by decide +kernel
theorem dX5_best_71 : decode cX5_best 71 = .ok (.iconst 1, 1) := by decide +kernel
theorem dX5_best_72 : decode cX5_best 72 = .ok (.iand, 1) := by decide +kernel
theorem dX5_best_73 : decode cX5_best 73 = .ok (.ifCond .ne 147, 3) := by decide +kernel
theorem dX5_best_76 : decode cX5_best 76 = .ok (.iconst 0, 1) := by decide +kernel
theorem dX5_best_77 : decode cX5_best 77 = .ok (.istore 12, 2) := by decide +kernel
theorem dX5_best_79 : decode cX5_best 79 = .ok (.iload 12, 2) := by decide +kernel
theorem dX5_best_81 : decode cX5_best 81 = .ok (.iconst 2, 1) := by decide +kernel
theorem dX5_best_82 : decode cX5_best 82 = .ok (.if_icmp .ge 138, 3) := by decide +kernel
theorem dX5_best_85 : decode cX5_best 85 = .ok (.iconst 4, 1) := by decide +kernel
theorem dX5_best_86 : decode cX5_best 86 = .ok (.aload_n 0, 1) := by decide +kernel
theorem dX5_best_87 : decode cX5_best 87 = .ok (.iload_n 1, 1) := by decide +kernel
theorem dX5_best_88 : decode cX5_best 88 = .ok (.iload 10, 2) := by decide +kernel
theorem dX5_best_90 : decode cX5_best 90 = .ok (.iload 11, 2) := by decide +kernel
theorem dX5_best_92 : decode cX5_best 92 = .ok (.iconst 1, 1) := by decide +kernel
theorem dX5_best_93 : decode cX5_best 93 = .ok (.iadd, 1) := by decide +kernel
theorem dX5_best_94 : decode cX5_best 94 = .ok (.invokevirtual 200, 3) := by decide +kernel
theorem dX5_best_97 : decode cX5_best 97 = .ok (.imul, 1) := by decide +kernel
theorem dX5_best_98 : decode cX5_best 98 = .ok (.iconst 2, 1) := by decide +kernel
theorem dX5_best_99 : decode cX5_best 99 = .ok (.iload 9, 2) := by decide +kernel
theorem dX5_best_101 : decode cX5_best 101 = .ok (.imul, 1) := by decide +kernel
theorem dX5_best_102 : decode cX5_best 102 = .ok (.iadd, 1) := by decide +kernel
theorem dX5_best_103 : decode cX5_best 103 = .ok (.iload 12, 2) := by decide +kernel
theorem dX5_best_105 : decode cX5_best 105 = .ok (.iadd, 1) := by decide +kernel
theorem dX5_best_106 : decode cX5_best 106 = .ok (.istore 13, 2) := by decide +kernel
theorem dX5_best_108 : decode cX5_best 108 = .ok (.aload_n 0, 1) := by decide +kernel
theorem dX5_best_109 : decode cX5_best 109 = .ok (.iload_n 1, 1) := by decide +kernel
theorem dX5_best_110 : decode cX5_best 110 = .ok (.iload_n 2, 1) := by decide +kernel
theorem dX5_best_111 : decode cX5_best 111 = .ok (.iload_n 3, 1) := by decide +kernel
theorem dX5_best_112 : decode cX5_best 112 = .ok (.iload 13, 2) := by decide +kernel
theorem dX5_best_114 : decode cX5_best 114 = .ok (.invokevirtual 214, 3) := by decide +kernel
theorem dX5_best_117 : decode cX5_best 117 = .ok (.istore 14, 2) := by decide +kernel
theorem dX5_best_119 : decode cX5_best 119 = .ok (.iload 14, 2) := by decide +kernel
theorem dX5_best_121 : decode cX5_best 121 = .ok (.ifCond .ne 7, 3) := by decide +kernel
theorem dX5_best_124 : decode cX5_best 124 = .ok (.iconst (-1), 1) := by decide +kernel
theorem dX5_best_125 : decode cX5_best 125 = .ok (.goto 40, 3) := by decide +kernel
theorem dX5_best_128 : decode cX5_best 128 = .ok (.iload 9, 2) := by decide +kernel
theorem dX5_best_130 : decode cX5_best 130 = .ok (.iconst 1, 1) := by decide +kernel
theorem dX5_best_131 : decode cX5_best 131 = .ok (.if_icmp .ne 20, 3) := by decide +kernel
theorem dX5_best_134 : decode cX5_best 134 = .ok (.aload_n 0, 1) := by decide +kernel
theorem dX5_best_135 : decode cX5_best 135 = .ok (.getfield 76, 3) := by decide +kernel
theorem dX5_best_138 : decode cX5_best 138 = .ok (.aload_n 0, 1) := by decide +kernel
theorem dX5_best_139 : decode cX5_best 139 = .ok (.iload_n 2, 1) := by decide +kernel
theorem dX5_best_140 : decode cX5_best 140 = .ok (.iload_n 3, 1) := by decide +kernel
theorem dX5_best_141 : decode cX5_best 141 = .ok (.iload 14, 2) := by decide +kernel
theorem dX5_best_143 : decode cX5_best 143 = .ok (.ior, 1) := by decide +kernel
theorem dX5_best_144 : decode cX5_best 144 = .ok (.invokevirtual 204, 3) := by decide +kernel
theorem dX5_best_147 : decode cX5_best 147 = .ok (.iaload, 1) := by decide +kernel
theorem dX5_best_148 : decode cX5_best 148 = .ok (.goto 17, 3) := by decide +kernel
theorem dX5_best_151 : decode cX5_best 151 = .ok (.aload_n 0, 1) := by decide +kernel
theorem dX5_best_152 : decode cX5_best 152 = .ok (.getfield 76, 3) := by decide +kernel
theorem dX5_best_155 : decode cX5_best 155 = .ok (.aload_n 0, 1) := by decide +kernel
theorem dX5_best_156 : decode cX5_best 156 = .ok (.iload_n 2, 1) := by decide +kernel
theorem dX5_best_157 : decode cX5_best 157 = .ok (.iload 14, 2) := by decide +kernel
theorem dX5_best_159 : decode cX5_best 159 = .ok (.ior, 1) := by decide +kernel
theorem dX5_best_160 : decode cX5_best 160 = .ok (.iload_n 3, 1) := by decide +kernel
theorem dX5_best_161 : decode cX5_best 161 = .ok (.invokevirtual 204, 3) := by decide +kernel
theorem dX5_best_164 : decode cX5_best 164 = .ok (.iaload, 1) := by decide +kernel
theorem dX5_best_165 : decode cX5_best 165 = .ok (.istore 15, 2) := by decide +kernel
theorem dX5_best_167 : decode cX5_best 167 = .ok (.iload 15, 2) := by decide +kernel
theorem dX5_best_169 : decode cX5_best 169 = .ok (.iconst (-1), 1) := by decide +kernel
theorem dX5_best_170 : decode cX5_best 170 = .ok (.if_icmp .eq 44, 3) := by decide +kernel
theorem dX5_best_173 : decode cX5_best 173 = .ok (.iload 7, 2) := by decide +kernel
theorem dX5_best_175 : decode cX5_best 175 = .ok (.iconst (-1), 1) := by decide +kernel
theorem dX5_best_176 : decode cX5_best 176 = .ok (.if_icmp .eq 28, 3) := by decide +kernel
theorem dX5_best_179 : decode cX5_best 179 = .ok (.iload 15, 2) := by decide +kernel
theorem dX5_best_181 : decode cX5_best 181 = .ok (.iconst 1, 1) := by decide +kernel
theorem dX5_best_182 : decode cX5_best 182 = .ok (.iadd, 1) := by decide +kernel
theorem dX5_best_183 : decode cX5_best 183 = .ok (.iload 7, 2) := by decide +kernel
theorem dX5_best_185 : decode cX5_best 185 = .ok (.if_icmp .lt 19, 3) := by decide +kernel
theorem dX5_best_188 : decode cX5_best 188 = .ok (.iload 15, 2) := by decide +kernel
theorem dX5_best_190 : decode cX5_best 190 = .ok (.iconst 1, 1) := by decide +kernel
theorem dX5_best_191 : decode cX5_best 191 = .ok (.iadd, 1) := by decide +kernel
theorem dX5_best_192 : decode cX5_best 192 = .ok (.iload 7, 2) := by decide +kernel
theorem dX5_best_194 : decode cX5_best 194 = .ok (.if_icmp .ne 20, 3) := by decide +kernel
theorem dX5_best_197 : decode cX5_best 197 = .ok (.iload 13, 2) := by decide +kernel
theorem dX5_best_199 : decode cX5_best 199 = .ok (.iload 8, 2) := by decide +kernel
theorem dX5_best_201 : decode cX5_best 201 = .ok (.if_icmp .ge 13, 3) := by decide +kernel
theorem dX5_best_204 : decode cX5_best 204 = .ok (.iload 15, 2) := by decide +kernel
theorem dX5_best_206 : decode cX5_best 206 = .ok (.iconst 1, 1) := by decide +kernel
theorem dX5_best_207 : decode cX5_best 207 = .ok (.iadd, 1) := by decide +kernel
theorem dX5_best_208 : decode cX5_best 208 = .ok (.istore 7, 2) := by decide +kernel
theorem dX5_best_210 : decode cX5_best 210 = .ok (.iload 13, 2) := by decide +kernel
theorem dX5_best_212 : decode cX5_best 212 = .ok (.istore 8, 2) := by decide +kernel
theorem dX5_best_214 : decode cX5_best 214 = .ok (.iinc 12 1, 3) := by decide +kernel
theorem dX5_best_217 : decode cX5_best 217 = .ok (.goto (-138), 3) := by decide +kernel
theorem dX5_best_220 : decode cX5_best 220 = .ok (.iinc 11 1, 3) := by decide +kernel
theorem dX5_best_223 : decode cX5_best 223 = .ok (.goto (-178), 3) := by decide +kernel
theorem dX5_best_226 : decode cX5_best 226 = .ok (.iinc 9 1, 3) := by decide +kernel
theorem dX5_best_229 : decode cX5_best 229 = .ok (.goto (-220), 3) := by decide +kernel
theorem dX5_best_232 : decode cX5_best 232 = .ok (.iload 6, 2) := by decide +kernel
theorem dX5_best_234 : decode cX5_best 234 = .ok (.ifCond .eq 8, 3) := by decide +kernel
theorem dX5_best_237 : decode cX5_best 237 = .ok (.iload 8, 2) := by decide +kernel
theorem dX5_best_239 : decode cX5_best 239 = .ok (.goto 5, 3) := by decide +kernel
theorem dX5_best_242 : decode cX5_best 242 = .ok (.iload 7, 2) := by decide +kernel
theorem dX5_best_244 : decode cX5_best 244 = .ok (.ireturn, 1) := by decide +kernel
theorem dX5_step_0 : decode cX5_step 0 = .ok (.iload_n 1, 1) := by decide +kernel
theorem dX5_step_1 : decode cX5_step 1 = .ok (.ifCond .lt 11, 3) := by decide +kernel
theorem dX5_step_4 : decode cX5_step 4 = .ok (.iload_n 1, 1) := by decide +kernel
theorem dX5_step_5 : decode cX5_step 5 = .ok (.aload_n 0, 1) := by decide +kernel
theorem dX5_step_6 : decode cX5_step 6 = .ok (.getfield 211, 3) := by decide +kernel
theorem dX5_step_9 : decode cX5_step 9 = .ok (.if_icmp .lt 8, 3) := by decide +kernel
theorem dX5_step_12 : decode cX5_step 12 = .ok (.bipush (-103), 2) := by decide +kernel
theorem dX5_step_14 : decode cX5_step 14 = .ok (.goto 9, 3) := by decide +kernel
theorem dX5_step_17 : decode cX5_step 17 = .ok (.aload_n 0, 1) := by decide +kernel
theorem dX5_step_18 : decode cX5_step 18 = .ok (.getfield 79, 3) := by decide +kernel
theorem dX5_step_21 : decode cX5_step 21 = .ok (.iload_n 1, 1) := by decide +kernel
theorem dX5_step_22 : decode cX5_step 22 = .ok (.iaload, 1) := by decide +kernel
theorem dX5_step_23 : decode cX5_step 23 = .ok (.ireturn, 1) := by decide +kernel
theorem dX5_creasesIn_0 : decode cX5_creasesIn 0 = .ok (.iload_n 2, 1) := by decide +kernel
theorem dX5_creasesIn_1 : decode cX5_creasesIn 1 = .ok (.invokestatic 218, 3) := by decide +kernel
theorem dX5_creasesIn_4 : decode cX5_creasesIn 4 = .ok (.aload_n 0, 1) := by decide +kernel
theorem dX5_creasesIn_5 : decode cX5_creasesIn 5 = .ok (.getfield 7, 3) := by decide +kernel
theorem dX5_creasesIn_8 : decode cX5_creasesIn 8 = .ok (.iload_n 1, 1) := by decide +kernel
theorem dX5_creasesIn_9 : decode cX5_creasesIn 9 = .ok (.iaload, 1) := by decide +kernel
theorem dX5_creasesIn_10 : decode cX5_creasesIn 10 = .ok (.iconst 2, 1) := by decide +kernel
theorem dX5_creasesIn_11 : decode cX5_creasesIn 11 = .ok (.if_icmp .eq 7, 3) := by decide +kernel
theorem dX5_creasesIn_14 : decode cX5_creasesIn 14 = .ok (.iconst 1, 1) := by decide +kernel
theorem dX5_creasesIn_15 : decode cX5_creasesIn 15 = .ok (.goto 22, 3) := by decide +kernel
theorem dX5_creasesIn_18 : decode cX5_creasesIn 18 = .ok (.iload_n 3, 1) := by decide +kernel
theorem dX5_creasesIn_19 : decode cX5_creasesIn 19 = .ok (.ifCond .eq 12, 3) := by decide +kernel
theorem dX5_creasesIn_22 : decode cX5_creasesIn 22 = .ok (.aload_n 0, 1) := by decide +kernel
theorem dX5_creasesIn_23 : decode cX5_creasesIn 23 = .ok (.getfield 19, 3) := by decide +kernel
theorem dX5_creasesIn_26 : decode cX5_creasesIn 26 = .ok (.iload_n 1, 1) := by decide +kernel
theorem dX5_creasesIn_27 : decode cX5_creasesIn 27 = .ok (.iaload, 1) := by decide +kernel
theorem dX5_creasesIn_28 : decode cX5_creasesIn 28 = .ok (.goto 9, 3) := by decide +kernel
theorem dX5_creasesIn_31 : decode cX5_creasesIn 31 = .ok (.aload_n 0, 1) := by decide +kernel
theorem dX5_creasesIn_32 : decode cX5_creasesIn 32 = .ok (.getfield 16, 3) := by decide +kernel
theorem dX5_creasesIn_35 : decode cX5_creasesIn 35 = .ok (.iload_n 1, 1) := by decide +kernel
theorem dX5_creasesIn_36 : decode cX5_creasesIn 36 = .ok (.iaload, 1) := by decide +kernel
theorem dX5_creasesIn_37 : decode cX5_creasesIn 37 = .ok (.imul, 1) := by decide +kernel
theorem dX5_creasesIn_38 : decode cX5_creasesIn 38 = .ok (.ireturn, 1) := by decide +kernel
theorem dX5_fold_0 : decode cX5_fold 0 = .ok (.aload_n 0, 1) := by decide +kernel
theorem dX5_fold_1 : decode cX5_fold 1 = .ok (.iload_n 1, 1) := by decide +kernel
theorem dX5_fold_2 : decode cX5_fold 2 = .ok (.invokevirtual 85, 3) := by decide +kernel
theorem dX5_fold_5 : decode cX5_fold 5 = .ok (.ifCond .ne 6, 3) := by decide +kernel
theorem dX5_fold_8 : decode cX5_fold 8 = .ok (.bipush (-101), 2) := by decide +kernel
theorem dX5_fold_10 : decode cX5_fold 10 = .ok (.ireturn, 1) := by decide +kernel
theorem dX5_fold_11 : decode cX5_fold 11 = .ok (.aload_n 0, 1) := by decide +kernel
theorem dX5_fold_12 : decode cX5_fold 12 = .ok (.getfield 7, 3) := by decide +kernel
theorem dX5_fold_15 : decode cX5_fold 15 = .ok (.iload_n 1, 1) := by decide +kernel
theorem dX5_fold_16 : decode cX5_fold 16 = .ok (.iaload, 1) := by decide +kernel
theorem dX5_fold_17 : decode cX5_fold 17 = .ok (.iconst 1, 1) := by decide +kernel
theorem dX5_fold_18 : decode cX5_fold 18 = .ok (.if_icmp .ne 6, 3) := by decide +kernel
theorem dX5_fold_21 : decode cX5_fold 21 = .ok (.bipush (-103), 2) := by decide +kernel
theorem dX5_fold_23 : decode cX5_fold 23 = .ok (.ireturn, 1) := by decide +kernel
theorem dX5_fold_24 : decode cX5_fold 24 = .ok (.aload_n 0, 1) := by decide +kernel
theorem dX5_fold_25 : decode cX5_fold 25 = .ok (.iload_n 1, 1) := by decide +kernel
theorem dX5_fold_26 : decode cX5_fold 26 = .ok (.aload_n 0, 1) := by decide +kernel
theorem dX5_fold_27 : decode cX5_fold 27 = .ok (.getfield 37, 3) := by decide +kernel
theorem dX5_fold_30 : decode cX5_fold 30 = .ok (.iload_n 1, 1) := by decide +kernel
theorem dX5_fold_31 : decode cX5_fold 31 = .ok (.iaload, 1) := by decide +kernel
theorem dX5_fold_32 : decode cX5_fold 32 = .ok (.aload_n 0, 1) := by decide +kernel
theorem dX5_fold_33 : decode cX5_fold 33 = .ok (.getfield 40, 3) := by decide +kernel
theorem dX5_fold_36 : decode cX5_fold 36 = .ok (.iload_n 1, 1) := by decide +kernel
theorem dX5_fold_37 : decode cX5_fold 37 = .ok (.iaload, 1) := by decide +kernel
theorem dX5_fold_38 : decode cX5_fold 38 = .ok (.iload_n 2, 1) := by decide +kernel
theorem dX5_fold_39 : decode cX5_fold 39 = .ok (.invokevirtual 214, 3) := by decide +kernel
theorem dX5_fold_42 : decode cX5_fold 42 = .ok (.istore_n 3, 1) := by decide +kernel
theorem dX5_fold_43 : decode cX5_fold 43 = .ok (.iload_n 2, 1) := by decide +kernel
theorem dX5_fold_44 : decode cX5_fold 44 = .ok (.iconst 2, 1) := by decide +kernel
theorem dX5_fold_45 : decode cX5_fold 45 = .ok (.iand, 1) := by decide +kernel
theorem dX5_fold_46 : decode cX5_fold 46 = .ok (.ifCond .eq 7, 3) := by decide +kernel
theorem dX5_fold_49 : decode cX5_fold 49 = .ok (.iconst 1, 1) := by decide +kernel
theorem dX5_fold_50 : decode cX5_fold 50 = .ok (.goto 4, 3) := by decide +kernel
theorem dX5_fold_53 : decode cX5_fold 53 = .ok (.iconst 0, 1) := by decide +kernel
theorem dX5_fold_54 : decode cX5_fold 54 = .ok (.istore 4, 2) := by decide +kernel
theorem dX5_fold_56 : decode cX5_fold 56 = .ok (.iload 4, 2) := by decide +kernel
theorem dX5_fold_58 : decode cX5_fold 58 = .ok (.ifCond .eq 16, 3) := by decide +kernel
theorem dX5_fold_61 : decode cX5_fold 61 = .ok (.aload_n 0, 1) := by decide +kernel
theorem dX5_fold_62 : decode cX5_fold 62 = .ok (.getfield 40, 3) := by decide +kernel
theorem dX5_fold_65 : decode cX5_fold 65 = .ok (.iload_n 1, 1) := by decide +kernel
theorem dX5_fold_66 : decode cX5_fold 66 = .ok (.dup2, 1) := by decide +kernel
theorem dX5_fold_67 : decode cX5_fold 67 = .ok (.iaload, 1) := by decide +kernel
theorem dX5_fold_68 : decode cX5_fold 68 = .ok (.iload_n 3, 1) := by decide +kernel
theorem dX5_fold_69 : decode cX5_fold 69 = .ok (.ior, 1) := by decide +kernel
theorem dX5_fold_70 : decode cX5_fold 70 = .ok (.iastore, 1) := by decide +kernel
theorem dX5_fold_71 : decode cX5_fold 71 = .ok (.goto 13, 3) := by decide +kernel
theorem dX5_fold_74 : decode cX5_fold 74 = .ok (.aload_n 0, 1) := by decide +kernel
theorem dX5_fold_75 : decode cX5_fold 75 = .ok (.getfield 37, 3) := by decide +kernel
theorem dX5_fold_78 : decode cX5_fold 78 = .ok (.iload_n 1, 1) := by decide +kernel
theorem dX5_fold_79 : decode cX5_fold 79 = .ok (.dup2, 1) := by decide +kernel
theorem dX5_fold_80 : decode cX5_fold 80 = .ok (.iaload, 1) := by decide +kernel
theorem dX5_fold_81 : decode cX5_fold 81 = .ok (.iload_n 3, 1) := by decide +kernel
theorem dX5_fold_82 : decode cX5_fold 82 = .ok (.ior, 1) := by decide +kernel
theorem dX5_fold_83 : decode cX5_fold 83 = .ok (.iastore, 1) := by decide +kernel
theorem dX5_fold_84 : decode cX5_fold 84 = .ok (.aload_n 0, 1) := by decide +kernel
theorem dX5_fold_85 : decode cX5_fold 85 = .ok (.iload_n 1, 1) := by decide +kernel
theorem dX5_fold_86 : decode cX5_fold 86 = .ok (.iload_n 3, 1) := by decide +kernel
theorem dX5_fold_87 : decode cX5_fold 87 = .ok (.iload 4, 2) := by decide +kernel
theorem dX5_fold_89 : decode cX5_fold 89 = .ok (.invokevirtual 221, 3) := by decide +kernel
theorem dX5_fold_92 : decode cX5_fold 92 = .ok (.ireturn, 1) := by decide +kernel
theorem dX5_flatten_0 : decode cX5_flatten 0 = .ok (.aload_n 0, 1) := by decide +kernel
theorem dX5_flatten_1 : decode cX5_flatten 1 = .ok (.iload_n 1, 1) := by decide +kernel
theorem dX5_flatten_2 : decode cX5_flatten 2 = .ok (.invokevirtual 85, 3) := by decide +kernel
theorem dX5_flatten_5 : decode cX5_flatten 5 = .ok (.ifCond .ne 6, 3) := by decide +kernel
theorem dX5_flatten_8 : decode cX5_flatten 8 = .ok (.bipush (-101), 2) := by decide +kernel
theorem dX5_flatten_10 : decode cX5_flatten 10 = .ok (.ireturn, 1) := by decide +kernel
theorem dX5_flatten_11 : decode cX5_flatten 11 = .ok (.aload_n 0, 1) := by decide +kernel
theorem dX5_flatten_12 : decode cX5_flatten 12 = .ok (.getfield 7, 3) := by decide +kernel
theorem dX5_flatten_15 : decode cX5_flatten 15 = .ok (.iload_n 1, 1) := by decide +kernel
theorem dX5_flatten_16 : decode cX5_flatten 16 = .ok (.iaload, 1) := by decide +kernel
theorem dX5_flatten_17 : decode cX5_flatten 17 = .ok (.iconst 1, 1) := by decide +kernel
theorem dX5_flatten_18 : decode cX5_flatten 18 = .ok (.if_icmp .ne 6, 3) := by decide +kernel
theorem dX5_flatten_21 : decode cX5_flatten 21 = .ok (.bipush (-103), 2) := by decide +kernel
theorem dX5_flatten_23 : decode cX5_flatten 23 = .ok (.ireturn, 1) := by decide +kernel
theorem dX5_flatten_24 : decode cX5_flatten 24 = .ok (.aload_n 0, 1) := by decide +kernel
theorem dX5_flatten_25 : decode cX5_flatten 25 = .ok (.iload_n 1, 1) := by decide +kernel
theorem dX5_flatten_26 : decode cX5_flatten 26 = .ok (.aload_n 0, 1) := by decide +kernel
theorem dX5_flatten_27 : decode cX5_flatten 27 = .ok (.getfield 37, 3) := by decide +kernel
theorem dX5_flatten_30 : decode cX5_flatten 30 = .ok (.iload_n 1, 1) := by decide +kernel
theorem dX5_flatten_31 : decode cX5_flatten 31 = .ok (.iaload, 1) := by decide +kernel
theorem dX5_flatten_32 : decode cX5_flatten 32 = .ok (.iconst 0, 1) := by decide +kernel
theorem dX5_flatten_33 : decode cX5_flatten 33 = .ok (.invokevirtual 221, 3) := by decide +kernel
theorem dX5_flatten_36 : decode cX5_flatten 36 = .ok (.aload_n 0, 1) := by decide +kernel
theorem dX5_flatten_37 : decode cX5_flatten 37 = .ok (.iload_n 1, 1) := by decide +kernel
theorem dX5_flatten_38 : decode cX5_flatten 38 = .ok (.aload_n 0, 1) := by decide +kernel
theorem dX5_flatten_39 : decode cX5_flatten 39 = .ok (.getfield 40, 3) := by decide +kernel
theorem dX5_flatten_42 : decode cX5_flatten 42 = .ok (.iload_n 1, 1) := by decide +kernel
theorem dX5_flatten_43 : decode cX5_flatten 43 = .ok (.iaload, 1) := by decide +kernel
theorem dX5_flatten_44 : decode cX5_flatten 44 = .ok (.iconst 1, 1) := by decide +kernel
theorem dX5_flatten_45 : decode cX5_flatten 45 = .ok (.invokevirtual 221, 3) := by decide +kernel
theorem dX5_flatten_48 : decode cX5_flatten 48 = .ok (.iadd, 1) := by decide +kernel
theorem dX5_flatten_49 : decode cX5_flatten 49 = .ok (.istore_n 2, 1) := by decide +kernel
theorem dX5_flatten_50 : decode cX5_flatten 50 = .ok (.aload_n 0, 1) := by decide +kernel
theorem dX5_flatten_51 : decode cX5_flatten 51 = .ok (.getfield 37, 3) := by decide +kernel
theorem dX5_flatten_54 : decode cX5_flatten 54 = .ok (.iload_n 1, 1) := by decide +kernel
theorem dX5_flatten_55 : decode cX5_flatten 55 = .ok (.iconst 0, 1) := by decide +kernel
theorem dX5_flatten_56 : decode cX5_flatten 56 = .ok (.iastore, 1) := by decide +kernel
theorem dX5_flatten_57 : decode cX5_flatten 57 = .ok (.aload_n 0, 1) := by decide +kernel
theorem dX5_flatten_58 : decode cX5_flatten 58 = .ok (.getfield 40, 3) := by decide +kernel
theorem dX5_flatten_61 : decode cX5_flatten 61 = .ok (.iload_n 1, 1) := by decide +kernel
theorem dX5_flatten_62 : decode cX5_flatten 62 = .ok (.iconst 0, 1) := by decide +kernel
theorem dX5_flatten_63 : decode cX5_flatten 63 = .ok (.iastore, 1) := by decide +kernel
theorem dX5_flatten_64 : decode cX5_flatten 64 = .ok (.iload_n 2, 1) := by decide +kernel
theorem dX5_flatten_65 : decode cX5_flatten 65 = .ok (.ireturn, 1) := by decide +kernel
theorem dX5_lies_0 : decode cX5_lies 0 = .ok (.aload_n 0, 1) := by decide +kernel
theorem dX5_lies_1 : decode cX5_lies 1 = .ok (.iload_n 1, 1) := by decide +kernel
theorem dX5_lies_2 : decode cX5_lies 2 = .ok (.iload_n 2, 1) := by decide +kernel
theorem dX5_lies_3 : decode cX5_lies 3 = .ok (.invokevirtual 97, 3) := by decide +kernel
theorem dX5_lies_6 : decode cX5_lies 6 = .ok (.ifCond .ne 6, 3) := by decide +kernel
theorem dX5_lies_9 : decode cX5_lies 9 = .ok (.bipush (-101), 2) := by decide +kernel
theorem dX5_lies_11 : decode cX5_lies 11 = .ok (.ireturn, 1) := by decide +kernel
theorem dX5_lies_12 : decode cX5_lies 12 = .ok (.iload_n 3, 1) := by decide +kernel
theorem dX5_lies_13 : decode cX5_lies 13 = .ok (.ifCond .lt 8, 3) := by decide +kernel
theorem dX5_lies_16 : decode cX5_lies 16 = .ok (.iload_n 3, 1) := by decide +kernel
theorem dX5_lies_17 : decode cX5_lies 17 = .ok (.iconst 3, 1) := by decide +kernel
theorem dX5_lies_18 : decode cX5_lies 18 = .ok (.if_icmp .le 6, 3) := by decide +kernel
theorem dX5_lies_21 : decode cX5_lies 21 = .ok (.bipush (-102), 2) := by decide +kernel
theorem dX5_lies_23 : decode cX5_lies 23 = .ok (.ireturn, 1) := by decide +kernel
theorem dX5_lies_24 : decode cX5_lies 24 = .ok (.aload_n 0, 1) := by decide +kernel
theorem dX5_lies_25 : decode cX5_lies 25 = .ok (.getfield 7, 3) := by decide +kernel
theorem dX5_lies_28 : decode cX5_lies 28 = .ok (.iload_n 1, 1) := by decide +kernel
theorem dX5_lies_29 : decode cX5_lies 29 = .ok (.iaload, 1) := by decide +kernel
theorem dX5_lies_30 : decode cX5_lies 30 = .ok (.iconst 1, 1) := by decide +kernel
theorem dX5_lies_31 : decode cX5_lies 31 = .ok (.if_icmp .ne 6, 3) := by decide +kernel
theorem dX5_lies_34 : decode cX5_lies 34 = .ok (.bipush (-103), 2) := by decide +kernel
theorem dX5_lies_36 : decode cX5_lies 36 = .ok (.ireturn, 1) := by decide +kernel
theorem dX5_lies_37 : decode cX5_lies 37 = .ok (.iload_n 2, 1) := by decide +kernel
theorem dX5_lies_38 : decode cX5_lies 38 = .ok (.aload_n 0, 1) := by decide +kernel
theorem dX5_lies_39 : decode cX5_lies 39 = .ok (.getfield 19, 3) := by decide +kernel
theorem dX5_lies_42 : decode cX5_lies 42 = .ok (.iload_n 1, 1) := by decide +kernel
theorem dX5_lies_43 : decode cX5_lies 43 = .ok (.iaload, 1) := by decide +kernel
theorem dX5_lies_44 : decode cX5_lies 44 = .ok (.irem, 1) := by decide +kernel
theorem dX5_lies_45 : decode cX5_lies 45 = .ok (.istore 4, 2) := by decide +kernel
theorem dX5_lies_47 : decode cX5_lies 47 = .ok (.iload_n 2, 1) := by decide +kernel
theorem dX5_lies_48 : decode cX5_lies 48 = .ok (.aload_n 0, 1) := by decide +kernel
theorem dX5_lies_49 : decode cX5_lies 49 = .ok (.getfield 19, 3) := by decide +kernel
theorem dX5_lies_52 : decode cX5_lies 52 = .ok (.iload_n 1, 1) := by decide +kernel
theorem dX5_lies_53 : decode cX5_lies 53 = .ok (.iaload, 1) := by decide +kernel
theorem dX5_lies_54 : decode cX5_lies 54 = .ok (.idiv, 1) := by decide +kernel
theorem dX5_lies_55 : decode cX5_lies 55 = .ok (.istore 5, 2) := by decide +kernel
theorem dX5_lies_57 : decode cX5_lies 57 = .ok (.iload_n 3, 1) := by decide +kernel
theorem dX5_lies_58 : decode cX5_lies 58 = .ok (.ifCond .ne 17, 3) := by decide +kernel
theorem dX5_lies_61 : decode cX5_lies 61 = .ok (.aload_n 0, 1) := by decide +kernel
theorem dX5_lies_62 : decode cX5_lies 62 = .ok (.iload_n 1, 1) := by decide +kernel
theorem dX5_lies_63 : decode cX5_lies 63 = .ok (.aload_n 0, 1) := by decide +kernel
theorem dX5_lies_64 : decode cX5_lies 64 = .ok (.getfield 37, 3) := by decide +kernel
theorem dX5_lies_67 : decode cX5_lies 67 = .ok (.iload_n 1, 1) := by decide +kernel
theorem dX5_lies_68 : decode cX5_lies 68 = .ok (.iaload, 1) := by decide +kernel
theorem dX5_lies_69 : decode cX5_lies 69 = .ok (.iload 4, 2) := by decide +kernel
theorem dX5_lies_71 : decode cX5_lies 71 = .ok (.invokevirtual 200, 3) := by decide +kernel
theorem dX5_lies_74 : decode cX5_lies 74 = .ok (.ireturn, 1) := by decide +kernel
theorem dX5_lies_75 : decode cX5_lies 75 = .ok (.iload_n 3, 1) := by decide +kernel
theorem dX5_lies_76 : decode cX5_lies 76 = .ok (.iconst 1, 1) := by decide +kernel
theorem dX5_lies_77 : decode cX5_lies 77 = .ok (.if_icmp .ne 23, 3) := by decide +kernel
theorem dX5_lies_80 : decode cX5_lies 80 = .ok (.aload_n 0, 1) := by decide +kernel
theorem dX5_lies_81 : decode cX5_lies 81 = .ok (.getfield 37, 3) := by decide +kernel
theorem dX5_lies_84 : decode cX5_lies 84 = .ok (.iload_n 1, 1) := by decide +kernel
theorem dX5_lies_85 : decode cX5_lies 85 = .ok (.iaload, 1) := by decide +kernel
theorem dX5_lies_86 : decode cX5_lies 86 = .ok (.iload 4, 2) := by decide +kernel
theorem dX5_lies_88 : decode cX5_lies 88 = .ok (.invokestatic 190, 3) := by decide +kernel
theorem dX5_lies_91 : decode cX5_lies 91 = .ok (.ifCond .eq 7, 3) := by decide +kernel
theorem dX5_lies_94 : decode cX5_lies 94 = .ok (.iconst 1, 1) := by decide +kernel
theorem dX5_lies_95 : decode cX5_lies 95 = .ok (.goto 4, 3) := by decide +kernel
theorem dX5_lies_98 : decode cX5_lies 98 = .ok (.iconst 0, 1) := by decide +kernel
theorem dX5_lies_99 : decode cX5_lies 99 = .ok (.ireturn, 1) := by decide +kernel
theorem dX5_lies_100 : decode cX5_lies 100 = .ok (.iload_n 3, 1) := by decide +kernel
theorem dX5_lies_101 : decode cX5_lies 101 = .ok (.iconst 2, 1) := by decide +kernel
theorem dX5_lies_102 : decode cX5_lies 102 = .ok (.if_icmp .ne 52, 3) := by decide +kernel
theorem dX5_lies_105 : decode cX5_lies 105 = .ok (.aload_n 0, 1) := by decide +kernel
theorem dX5_lies_106 : decode cX5_lies 106 = .ok (.getfield 37, 3) := by decide +kernel
theorem dX5_lies_109 : decode cX5_lies 109 = .ok (.iload_n 1, 1) := by decide +kernel
theorem dX5_lies_110 : decode cX5_lies 110 = .ok (.iaload, 1) := by decide +kernel
theorem dX5_lies_111 : decode cX5_lies 111 = .ok (.iload 4, 2) := by decide +kernel
theorem dX5_lies_113 : decode cX5_lies 113 = .ok (.invokestatic 190, 3) := by decide +kernel
theorem dX5_lies_116 : decode cX5_lies 116 = .ok (.aload_n 0, 1) := by decide +kernel
theorem dX5_lies_117 : decode cX5_lies 117 = .ok (.getfield 7, 3) := by decide +kernel
theorem dX5_lies_120 : decode cX5_lies 120 = .ok (.iload_n 1, 1) := by decide +kernel
theorem dX5_lies_121 : decode cX5_lies 121 = .ok (.iaload, 1) := by decide +kernel
theorem dX5_lies_122 : decode cX5_lies 122 = .ok (.iconst 2, 1) := by decide +kernel
theorem dX5_lies_123 : decode cX5_lies 123 = .ok (.if_icmp .ne 17, 3) := by decide +kernel
theorem dX5_lies_126 : decode cX5_lies 126 = .ok (.aload_n 0, 1) := by decide +kernel
theorem dX5_lies_127 : decode cX5_lies 127 = .ok (.getfield 40, 3) := by decide +kernel
theorem dX5_lies_130 : decode cX5_lies 130 = .ok (.iload_n 1, 1) := by decide +kernel
theorem dX5_lies_131 : decode cX5_lies 131 = .ok (.iaload, 1) := by decide +kernel
theorem dX5_lies_132 : decode cX5_lies 132 = .ok (.iload 5, 2) := by decide +kernel
theorem dX5_lies_134 : decode cX5_lies 134 = .ok (.invokestatic 190, 3) := by decide +kernel
theorem dX5_lies_137 : decode cX5_lies 137 = .ok (.ifCond .eq 7, 3) := by decide +kernel
theorem dX5_lies_140 : decode cX5_lies 140 = .ok (.iconst 1, 1) := by decide +kernel
theorem dX5_lies_141 : decode cX5_lies 141 = .ok (.goto 4, 3) := by decide +kernel
theorem dX5_lies_144 : decode cX5_lies 144 = .ok (.iconst 0, 1) := by decide +kernel
theorem dX5_lies_145 : decode cX5_lies 145 = .ok (.if_icmp .ne 7, 3) := by decide +kernel
theorem dX5_lies_148 : decode cX5_lies 148 = .ok (.iconst 1, 1) := by decide +kernel
theorem dX5_lies_149 : decode cX5_lies 149 = .ok (.goto 4, 3) := by decide +kernel
theorem dX5_lies_152 : decode cX5_lies 152 = .ok (.iconst 0, 1) := by decide +kernel
theorem dX5_lies_153 : decode cX5_lies 153 = .ok (.ireturn, 1) := by decide +kernel
theorem dX5_lies_154 : decode cX5_lies 154 = .ok (.aload_n 0, 1) := by decide +kernel
theorem dX5_lies_155 : decode cX5_lies 155 = .ok (.getfield 7, 3) := by decide +kernel
theorem dX5_lies_158 : decode cX5_lies 158 = .ok (.iload_n 1, 1) := by decide +kernel
theorem dX5_lies_159 : decode cX5_lies 159 = .ok (.iaload, 1) := by decide +kernel
theorem dX5_lies_160 : decode cX5_lies 160 = .ok (.iconst 2, 1) := by decide +kernel
theorem dX5_lies_161 : decode cX5_lies 161 = .ok (.if_icmp .ne 19, 3) := by decide +kernel
theorem dX5_lies_164 : decode cX5_lies 164 = .ok (.aload_n 0, 1) := by decide +kernel
theorem dX5_lies_165 : decode cX5_lies 165 = .ok (.iload_n 1, 1) := by decide +kernel
theorem dX5_lies_166 : decode cX5_lies 166 = .ok (.aload_n 0, 1) := by decide +kernel
theorem dX5_lies_167 : decode cX5_lies 167 = .ok (.getfield 40, 3) := by decide +kernel
theorem dX5_lies_170 : decode cX5_lies 170 = .ok (.iload_n 1, 1) := by decide +kernel
theorem dX5_lies_171 : decode cX5_lies 171 = .ok (.iaload, 1) := by decide +kernel
theorem dX5_lies_172 : decode cX5_lies 172 = .ok (.iload 5, 2) := by decide +kernel
theorem dX5_lies_174 : decode cX5_lies 174 = .ok (.invokevirtual 200, 3) := by decide +kernel
theorem dX5_lies_177 : decode cX5_lies 177 = .ok (.goto 4, 3) := by decide +kernel
theorem dX5_lies_180 : decode cX5_lies 180 = .ok (.iconst 0, 1) := by decide +kernel
theorem dX5_lies_181 : decode cX5_lies 181 = .ok (.ireturn, 1) := by decide +kernel
end
section
theorem dL_law_0 : decode cL_law 0 = .ok (.new 7, 3) := by decide +kernel
theorem dL_law_3 : decode cL_law 3 = .ok (.dup, 1) := by decide +kernel
theorem dL_law_4 : decode cL_law 4 = .ok (.invokespecial 9, 3) := by decide +kernel
theorem dL_law_7 : decode cL_law 7 = .ok (.astore_n 1, 1) := by decide +kernel
theorem dL_law_8 : decode cL_law 8 = .ok (.new 10, 3) := by decide +kernel
theorem dL_law_11 : decode cL_law 11 = .ok (.dup, 1) := by decide +kernel
theorem dL_law_12 : decode cL_law 12 = .ok (.invokespecial 12, 3) := by decide +kernel
theorem dL_law_15 : decode cL_law 15 = .ok (.astore_n 2, 1) := by decide +kernel
theorem dL_law_16 : decode cL_law 16 = .ok (.iconst 0, 1) := by decide +kernel
theorem dL_law_17 : decode cL_law 17 = .ok (.istore_n 3, 1) := by decide +kernel
theorem dL_law_18 : decode cL_law 18 = .ok (.iload_n 3, 1) := by decide +kernel
theorem dL_law_19 : decode cL_law 19 = .ok (.aload_n 0, 1) := by decide +kernel
theorem dL_law_20 : decode cL_law 20 = .ok (.arraylength, 1) := by decide +kernel
theorem dL_law_21 : decode cL_law 21 = .ok (.iconst 4, 1) := by decide +kernel
theorem dL_law_22 : decode cL_law 22 = .ok (.isub, 1) := by decide +kernel
theorem dL_law_23 : decode cL_law 23 = .ok (.if_icmp .gt 880, 3) := by decide +kernel
theorem dL_law_26 : decode cL_law 26 = .ok (.aload_n 0, 1) := by decide +kernel
theorem dL_law_27 : decode cL_law 27 = .ok (.iload_n 3, 1) := by decide +kernel
theorem dL_law_28 : decode cL_law 28 = .ok (.iaload, 1) := by decide +kernel
theorem dL_law_29 : decode cL_law 29 = .ok (.bipush 31, 2) := by decide +kernel
theorem dL_law_31 : decode cL_law 31 = .ok (.iand, 1) := by decide +kernel
theorem dL_law_32 : decode cL_law 32 = .ok (.tableswitch 865 0 23 #[112, 135, 158, 191, 234, 277, 310, 353, 376, 399, 422, 445, 479, 542, 575, 618, 651, 674, 697, 720, 743, 766, 799, 822], 112) := by decide +kernel
theorem dL_law_144 : decode cL_law 144 = .ok (.aload_n 1, 1) := by decide +kernel
theorem dL_law_145 : decode cL_law 145 = .ok (.aload_n 0, 1) := by decide +kernel
theorem dL_law_146 : decode cL_law 146 = .ok (.iload_n 3, 1) := by decide +kernel
theorem dL_law_147 : decode cL_law 147 = .ok (.iconst 1, 1) := by decide +kernel
theorem dL_law_148 : decode cL_law 148 = .ok (.iadd, 1) := by decide +kernel
theorem dL_law_149 : decode cL_law 149 = .ok (.iaload, 1) := by decide +kernel
theorem dL_law_150 : decode cL_law 150 = .ok (.invokevirtual 13, 3) := by decide +kernel
theorem dL_law_153 : decode cL_law 153 = .ok (.aload_n 2, 1) := by decide +kernel
theorem dL_law_154 : decode cL_law 154 = .ok (.aload_n 0, 1) := by decide +kernel
theorem dL_law_155 : decode cL_law 155 = .ok (.iload_n 3, 1) := by decide +kernel
theorem dL_law_156 : decode cL_law 156 = .ok (.iconst 1, 1) := by decide +kernel
theorem dL_law_157 : decode cL_law 157 = .ok (.iadd, 1) := by decide +kernel
theorem dL_law_158 : decode cL_law 158 = .ok (.iaload, 1) := by decide +kernel
theorem dL_law_159 : decode cL_law 159 = .ok (.invokevirtual 17, 3) := by decide +kernel
theorem dL_law_162 : decode cL_law 162 = .ok (.if_icmp .eq 735, 3) := by decide +kernel
theorem dL_law_165 : decode cL_law 165 = .ok (.iconst 0, 1) := by decide +kernel
theorem dL_law_166 : decode cL_law 166 = .ok (.ireturn, 1) := by decide +kernel
theorem dL_law_167 : decode cL_law 167 = .ok (.aload_n 1, 1) := by decide +kernel
theorem dL_law_168 : decode cL_law 168 = .ok (.aload_n 0, 1) := by decide +kernel
theorem dL_law_169 : decode cL_law 169 = .ok (.iload_n 3, 1) := by decide +kernel
theorem dL_law_170 : decode cL_law 170 = .ok (.iconst 1, 1) := by decide +kernel
theorem dL_law_171 : decode cL_law 171 = .ok (.iadd, 1) := by decide +kernel
theorem dL_law_172 : decode cL_law 172 = .ok (.iaload, 1) := by decide +kernel
theorem dL_law_173 : decode cL_law 173 = .ok (.invokevirtual 18, 3) := by decide +kernel
theorem dL_law_176 : decode cL_law 176 = .ok (.aload_n 2, 1) := by decide +kernel
theorem dL_law_177 : decode cL_law 177 = .ok (.aload_n 0, 1) := by decide +kernel
theorem dL_law_178 : decode cL_law 178 = .ok (.iload_n 3, 1) := by decide +kernel
theorem dL_law_179 : decode cL_law 179 = .ok (.iconst 1, 1) := by decide +kernel
theorem dL_law_180 : decode cL_law 180 = .ok (.iadd, 1) := by decide +kernel
theorem dL_law_181 : decode cL_law 181 = .ok (.iaload, 1) := by decide +kernel
theorem dL_law_182 : decode cL_law 182 = .ok (.invokevirtual 21, 3) := by decide +kernel
theorem dL_law_185 : decode cL_law 185 = .ok (.if_icmp .eq 712, 3) := by decide +kernel
theorem dL_law_188 : decode cL_law 188 = .ok (.iconst 0, 1) := by decide +kernel
theorem dL_law_189 : decode cL_law 189 = .ok (.ireturn, 1) := by decide +kernel
theorem dL_law_190 : decode cL_law 190 = .ok (.aload_n 1, 1) := by decide +kernel
theorem dL_law_191 : decode cL_law 191 = .ok (.aload_n 0, 1) := by decide +kernel
theorem dL_law_192 : decode cL_law 192 = .ok (.iload_n 3, 1) := by decide +kernel
theorem dL_law_193 : decode cL_law 193 = .ok (.iconst 1, 1) := by decide +kernel
theorem dL_law_194 : decode cL_law 194 = .ok (.iadd, 1) := by decide +kernel
theorem dL_law_195 : decode cL_law 195 = .ok (.iaload, 1) := by decide +kernel
theorem dL_law_196 : decode cL_law 196 = .ok (.aload_n 0, 1) := by decide +kernel
theorem dL_law_197 : decode cL_law 197 = .ok (.iload_n 3, 1) := by decide +kernel
theorem dL_law_198 : decode cL_law 198 = .ok (.iconst 2, 1) := by decide +kernel
theorem dL_law_199 : decode cL_law 199 = .ok (.iadd, 1) := by decide +kernel
theorem dL_law_200 : decode cL_law 200 = .ok (.iaload, 1) := by decide +kernel
theorem dL_law_201 : decode cL_law 201 = .ok (.invokevirtual 22, 3) := by decide +kernel
theorem dL_law_204 : decode cL_law 204 = .ok (.aload_n 2, 1) := by decide +kernel
theorem dL_law_205 : decode cL_law 205 = .ok (.aload_n 0, 1) := by decide +kernel
theorem dL_law_206 : decode cL_law 206 = .ok (.iload_n 3, 1) := by decide +kernel
theorem dL_law_207 : decode cL_law 207 = .ok (.iconst 1, 1) := by decide +kernel
theorem dL_law_208 : decode cL_law 208 = .ok (.iadd, 1) := by decide +kernel
theorem dL_law_209 : decode cL_law 209 = .ok (.iaload, 1) := by decide +kernel
theorem dL_law_210 : decode cL_law 210 = .ok (.aload_n 0, 1) := by decide +kernel
theorem dL_law_211 : decode cL_law 211 = .ok (.iload_n 3, 1) := by decide +kernel
theorem dL_law_212 : decode cL_law 212 = .ok (.iconst 2, 1) := by decide +kernel
theorem dL_law_213 : decode cL_law 213 = .ok (.iadd, 1) := by decide +kernel
theorem dL_law_214 : decode cL_law 214 = .ok (.iaload, 1) := by decide +kernel
theorem dL_law_215 : decode cL_law 215 = .ok (.invokevirtual 26, 3) := by decide +kernel
theorem dL_law_218 : decode cL_law 218 = .ok (.if_icmp .eq 679, 3) := by decide +kernel
theorem dL_law_221 : decode cL_law 221 = .ok (.iconst 0, 1) := by decide +kernel
theorem dL_law_222 : decode cL_law 222 = .ok (.ireturn, 1) := by decide +kernel
theorem dL_law_223 : decode cL_law 223 = .ok (.aload_n 1, 1) := by decide +kernel
theorem dL_law_224 : decode cL_law 224 = .ok (.aload_n 0, 1) := by decide +kernel
theorem dL_law_225 : decode cL_law 225 = .ok (.iload_n 3, 1) := by decide +kernel
theorem dL_law_226 : decode cL_law 226 = .ok (.iconst 1, 1) := by decide +kernel
theorem dL_law_227 : decode cL_law 227 = .ok (.iadd, 1) := by decide +kernel
theorem dL_law_228 : decode cL_law 228 = .ok (.iaload, 1) := by decide +kernel
theorem dL_law_229 : decode cL_law 229 = .ok (.aload_n 0, 1) := by decide +kernel
theorem dL_law_230 : decode cL_law 230 = .ok (.iload_n 3, 1) := by decide +kernel
theorem dL_law_231 : decode cL_law 231 = .ok (.iconst 2, 1) := by decide +kernel
theorem dL_law_232 : decode cL_law 232 = .ok (.iadd, 1) := by decide +kernel
theorem dL_law_233 : decode cL_law 233 = .ok (.iaload, 1) := by decide +kernel
theorem dL_law_234 : decode cL_law 234 = .ok (.aload_n 0, 1) := by decide +kernel
theorem dL_law_235 : decode cL_law 235 = .ok (.iload_n 3, 1) := by decide +kernel
theorem dL_law_236 : decode cL_law 236 = .ok (.iconst 3, 1) := by decide +kernel
theorem dL_law_237 : decode cL_law 237 = .ok (.iadd, 1) := by decide +kernel
theorem dL_law_238 : decode cL_law 238 = .ok (.iaload, 1) := by decide +kernel
theorem dL_law_239 : decode cL_law 239 = .ok (.invokevirtual 27, 3) := by decide +kernel
theorem dL_law_242 : decode cL_law 242 = .ok (.aload_n 2, 1) := by decide +kernel
theorem dL_law_243 : decode cL_law 243 = .ok (.aload_n 0, 1) := by decide +kernel
theorem dL_law_244 : decode cL_law 244 = .ok (.iload_n 3, 1) := by decide +kernel
theorem dL_law_245 : decode cL_law 245 = .ok (.iconst 1, 1) := by decide +kernel
theorem dL_law_246 : decode cL_law 246 = .ok (.iadd, 1) := by decide +kernel
theorem dL_law_247 : decode cL_law 247 = .ok (.iaload, 1) := by decide +kernel
theorem dL_law_248 : decode cL_law 248 = .ok (.aload_n 0, 1) := by decide +kernel
theorem dL_law_249 : decode cL_law 249 = .ok (.iload_n 3, 1) := by decide +kernel
theorem dL_law_250 : decode cL_law 250 = .ok (.iconst 2, 1) := by decide +kernel
theorem dL_law_251 : decode cL_law 251 = .ok (.iadd, 1) := by decide +kernel
theorem dL_law_252 : decode cL_law 252 = .ok (.iaload, 1) := by decide +kernel
theorem dL_law_253 : decode cL_law 253 = .ok (.aload_n 0, 1) := by decide +kernel
theorem dL_law_254 : decode cL_law 254 = .ok (.iload_n 3, 1) := by decide +kernel
theorem dL_law_255 : decode cL_law 255 = .ok (.iconst 3, 1) := by decide +kernel
theorem dL_law_256 : decode cL_law 256 = .ok (.iadd, 1) := by decide +kernel
theorem dL_law_257 : decode cL_law 257 = .ok (.iaload, 1) := by decide +kernel
theorem dL_law_258 : decode cL_law 258 = .ok (.invokevirtual 31, 3) := by decide +kernel
theorem dL_law_261 : decode cL_law 261 = .ok (.if_icmp .eq 636, 3) := by decide +kernel
theorem dL_law_264 : decode cL_law 264 = .ok (.iconst 0, 1) := by decide +kernel
theorem dL_law_265 : decode cL_law 265 = .ok (.ireturn, 1) := by decide +kernel
theorem dL_law_266 : decode cL_law 266 = .ok (.aload_n 1, 1) := by decide +kernel
theorem dL_law_267 : decode cL_law 267 = .ok (.aload_n 0, 1) := by decide +kernel
theorem dL_law_268 : decode cL_law 268 = .ok (.iload_n 3, 1) := by decide +kernel
theorem dL_law_269 : decode cL_law 269 = .ok (.iconst 1, 1) := by decide +kernel
theorem dL_law_270 : decode cL_law 270 = .ok (.iadd, 1) := by decide +kernel
theorem dL_law_271 : decode cL_law 271 = .ok (.iaload, 1) := by decide +kernel
theorem dL_law_272 : decode cL_law 272 = .ok (.aload_n 0, 1) := by decide +kernel
theorem dL_law_273 : decode cL_law 273 = .ok (.iload_n 3, 1) := by decide +kernel
theorem dL_law_274 : decode cL_law 274 = .ok (.iconst 2, 1) := by decide +kernel
theorem dL_law_275 : decode cL_law 275 = .ok (.iadd, 1) := by decide +kernel
theorem dL_law_276 : decode cL_law 276 = .ok (.iaload, 1) := by decide +kernel
theorem dL_law_277 : decode cL_law 277 = .ok (.aload_n 0, 1) := by decide +kernel
theorem dL_law_278 : decode cL_law 278 = .ok (.iload_n 3, 1) := by decide +kernel
theorem dL_law_279 : decode cL_law 279 = .ok (.iconst 3, 1) := by decide +kernel
theorem dL_law_280 : decode cL_law 280 = .ok (.iadd, 1) := by decide +kernel
theorem dL_law_281 : decode cL_law 281 = .ok (.iaload, 1) := by decide +kernel
theorem dL_law_282 : decode cL_law 282 = .ok (.invokevirtual 32, 3) := by decide +kernel
theorem dL_law_285 : decode cL_law 285 = .ok (.aload_n 2, 1) := by decide +kernel
theorem dL_law_286 : decode cL_law 286 = .ok (.aload_n 0, 1) := by decide +kernel
theorem dL_law_287 : decode cL_law 287 = .ok (.iload_n 3, 1) := by decide +kernel
theorem dL_law_288 : decode cL_law 288 = .ok (.iconst 1, 1) := by decide +kernel
theorem dL_law_289 : decode cL_law 289 = .ok (.iadd, 1) := by decide +kernel
theorem dL_law_290 : decode cL_law 290 = .ok (.iaload, 1) := by decide +kernel
theorem dL_law_291 : decode cL_law 291 = .ok (.aload_n 0, 1) := by decide +kernel
theorem dL_law_292 : decode cL_law 292 = .ok (.iload_n 3, 1) := by decide +kernel
theorem dL_law_293 : decode cL_law 293 = .ok (.iconst 2, 1) := by decide +kernel
theorem dL_law_294 : decode cL_law 294 = .ok (.iadd, 1) := by decide +kernel
theorem dL_law_295 : decode cL_law 295 = .ok (.iaload, 1) := by decide +kernel
theorem dL_law_296 : decode cL_law 296 = .ok (.aload_n 0, 1) := by decide +kernel
theorem dL_law_297 : decode cL_law 297 = .ok (.iload_n 3, 1) := by decide +kernel
theorem dL_law_298 : decode cL_law 298 = .ok (.iconst 3, 1) := by decide +kernel
theorem dL_law_299 : decode cL_law 299 = .ok (.iadd, 1) := by decide +kernel
theorem dL_law_300 : decode cL_law 300 = .ok (.iaload, 1) := by decide +kernel
theorem dL_law_301 : decode cL_law 301 = .ok (.invokevirtual 35, 3) := by decide +kernel
theorem dL_law_304 : decode cL_law 304 = .ok (.if_icmp .eq 593, 3) := by decide +kernel
theorem dL_law_307 : decode cL_law 307 = .ok (.iconst 0, 1) := by decide +kernel
theorem dL_law_308 : decode cL_law 308 = .ok (.ireturn, 1) := by decide +kernel
theorem dL_law_309 : decode cL_law 309 = .ok (.aload_n 1, 1) := by decide +kernel
theorem dL_law_310 : decode cL_law 310 = .ok (.aload_n 0, 1) := by decide +kernel
theorem dL_law_311 : decode cL_law 311 = .ok (.iload_n 3, 1) := by decide +kernel
theorem dL_law_312 : decode cL_law 312 = .ok (.iconst 1, 1) := by decide +kernel
theorem dL_law_313 : decode cL_law 313 = .ok (.iadd, 1) := by decide +kernel
theorem dL_law_314 : decode cL_law 314 = .ok (.iaload, 1) := by decide +kernel
theorem dL_law_315 : decode cL_law 315 = .ok (.aload_n 0, 1) := by decide +kernel
theorem dL_law_316 : decode cL_law 316 = .ok (.iload_n 3, 1) := by decide +kernel
theorem dL_law_317 : decode cL_law 317 = .ok (.iconst 2, 1) := by decide +kernel
theorem dL_law_318 : decode cL_law 318 = .ok (.iadd, 1) := by decide +kernel
theorem dL_law_319 : decode cL_law 319 = .ok (.iaload, 1) := by decide +kernel
theorem dL_law_320 : decode cL_law 320 = .ok (.invokevirtual 36, 3) := by decide +kernel
theorem dL_law_323 : decode cL_law 323 = .ok (.aload_n 2, 1) := by decide +kernel
theorem dL_law_324 : decode cL_law 324 = .ok (.aload_n 0, 1) := by decide +kernel
theorem dL_law_325 : decode cL_law 325 = .ok (.iload_n 3, 1) := by decide +kernel
theorem dL_law_326 : decode cL_law 326 = .ok (.iconst 1, 1) := by decide +kernel
theorem dL_law_327 : decode cL_law 327 = .ok (.iadd, 1) := by decide +kernel
theorem dL_law_328 : decode cL_law 328 = .ok (.iaload, 1) := by decide +kernel
theorem dL_law_329 : decode cL_law 329 = .ok (.aload_n 0, 1) := by decide +kernel
theorem dL_law_330 : decode cL_law 330 = .ok (.iload_n 3, 1) := by decide +kernel
theorem dL_law_331 : decode cL_law 331 = .ok (.iconst 2, 1) := by decide +kernel
theorem dL_law_332 : decode cL_law 332 = .ok (.iadd, 1) := by decide +kernel
theorem dL_law_333 : decode cL_law 333 = .ok (.iaload, 1) := by decide +kernel
theorem dL_law_334 : decode cL_law 334 = .ok (.invokevirtual 39, 3) := by decide +kernel
theorem dL_law_337 : decode cL_law 337 = .ok (.if_icmp .eq 560, 3) := by decide +kernel
theorem dL_law_340 : decode cL_law 340 = .ok (.iconst 0, 1) := by decide +kernel
theorem dL_law_341 : decode cL_law 341 = .ok (.ireturn, 1) := by decide +kernel
theorem dL_law_342 : decode cL_law 342 = .ok (.aload_n 1, 1) := by decide +kernel
theorem dL_law_343 : decode cL_law 343 = .ok (.aload_n 0, 1) := by decide +kernel
theorem dL_law_344 : decode cL_law 344 = .ok (.iload_n 3, 1) := by decide +kernel
theorem dL_law_345 : decode cL_law 345 = .ok (.iconst 1, 1) := by decide +kernel
theorem dL_law_346 : decode cL_law 346 = .ok (.iadd, 1) := by decide +kernel
theorem dL_law_347 : decode cL_law 347 = .ok (.iaload, 1) := by decide +kernel
theorem dL_law_348 : decode cL_law 348 = .ok (.aload_n 0, 1) := by decide +kernel
theorem dL_law_349 : decode cL_law 349 = .ok (.iload_n 3, 1) := by decide +kernel
theorem dL_law_350 : decode cL_law 350 = .ok (.iconst 2, 1) := by decide +kernel
theorem dL_law_351 : decode cL_law 351 = .ok (.iadd, 1) := by decide +kernel
theorem dL_law_352 : decode cL_law 352 = .ok (.iaload, 1) := by decide +kernel
theorem dL_law_353 : decode cL_law 353 = .ok (.aload_n 0, 1) := by decide +kernel
theorem dL_law_354 : decode cL_law 354 = .ok (.iload_n 3, 1) := by decide +kernel
theorem dL_law_355 : decode cL_law 355 = .ok (.iconst 3, 1) := by decide +kernel
theorem dL_law_356 : decode cL_law 356 = .ok (.iadd, 1) := by decide +kernel
theorem dL_law_357 : decode cL_law 357 = .ok (.iaload, 1) := by decide +kernel
theorem dL_law_358 : decode cL_law 358 = .ok (.invokevirtual 40, 3) := by decide +kernel
theorem dL_law_361 : decode cL_law 361 = .ok (.aload_n 2, 1) := by decide +kernel
theorem dL_law_362 : decode cL_law 362 = .ok (.aload_n 0, 1) := by decide +kernel
theorem dL_law_363 : decode cL_law 363 = .ok (.iload_n 3, 1) := by decide +kernel
theorem dL_law_364 : decode cL_law 364 = .ok (.iconst 1, 1) := by decide +kernel
theorem dL_law_365 : decode cL_law 365 = .ok (.iadd, 1) := by decide +kernel
theorem dL_law_366 : decode cL_law 366 = .ok (.iaload, 1) := by decide +kernel
theorem dL_law_367 : decode cL_law 367 = .ok (.aload_n 0, 1) := by decide +kernel
theorem dL_law_368 : decode cL_law 368 = .ok (.iload_n 3, 1) := by decide +kernel
theorem dL_law_369 : decode cL_law 369 = .ok (.iconst 2, 1) := by decide +kernel
theorem dL_law_370 : decode cL_law 370 = .ok (.iadd, 1) := by decide +kernel
theorem dL_law_371 : decode cL_law 371 = .ok (.iaload, 1) := by decide +kernel
theorem dL_law_372 : decode cL_law 372 = .ok (.aload_n 0, 1) := by decide +kernel
theorem dL_law_373 : decode cL_law 373 = .ok (.iload_n 3, 1) := by decide +kernel
theorem dL_law_374 : decode cL_law 374 = .ok (.iconst 3, 1) := by decide +kernel
theorem dL_law_375 : decode cL_law 375 = .ok (.iadd, 1) := by decide +kernel
theorem dL_law_376 : decode cL_law 376 = .ok (.iaload, 1) := by decide +kernel
theorem dL_law_377 : decode cL_law 377 = .ok (.invokevirtual 43, 3) := by decide +kernel
theorem dL_law_380 : decode cL_law 380 = .ok (.if_icmp .eq 517, 3) := by decide +kernel
theorem dL_law_383 : decode cL_law 383 = .ok (.iconst 0, 1) := by decide +kernel
theorem dL_law_384 : decode cL_law 384 = .ok (.ireturn, 1) := by decide +kernel
theorem dL_law_385 : decode cL_law 385 = .ok (.aload_n 1, 1) := by decide +kernel
theorem dL_law_386 : decode cL_law 386 = .ok (.aload_n 0, 1) := by decide +kernel
theorem dL_law_387 : decode cL_law 387 = .ok (.iload_n 3, 1) := by decide +kernel
theorem dL_law_388 : decode cL_law 388 = .ok (.iconst 1, 1) := by decide +kernel
theorem dL_law_389 : decode cL_law 389 = .ok (.iadd, 1) := by decide +kernel
theorem dL_law_390 : decode cL_law 390 = .ok (.iaload, 1) := by decide +kernel
theorem dL_law_391 : decode cL_law 391 = .ok (.invokevirtual 44, 3) := by decide +kernel
theorem dL_law_394 : decode cL_law 394 = .ok (.aload_n 2, 1) := by decide +kernel
theorem dL_law_395 : decode cL_law 395 = .ok (.aload_n 0, 1) := by decide +kernel
theorem dL_law_396 : decode cL_law 396 = .ok (.iload_n 3, 1) := by decide +kernel
theorem dL_law_397 : decode cL_law 397 = .ok (.iconst 1, 1) := by decide +kernel
theorem dL_law_398 : decode cL_law 398 = .ok (.iadd, 1) := by decide +kernel
theorem dL_law_399 : decode cL_law 399 = .ok (.iaload, 1) := by decide +kernel
theorem dL_law_400 : decode cL_law 400 = .ok (.invokevirtual 47, 3) := by decide +kernel
theorem dL_law_403 : decode cL_law 403 = .ok (.if_icmp .eq 494, 3) := by decide +kernel
theorem dL_law_406 : decode cL_law 406 = .ok (.iconst 0, 1) := by decide +kernel
theorem dL_law_407 : decode cL_law 407 = .ok (.ireturn, 1) := by decide +kernel
theorem dL_law_408 : decode cL_law 408 = .ok (.aload_n 1, 1) := by decide +kernel
theorem dL_law_409 : decode cL_law 409 = .ok (.aload_n 0, 1) := by decide +kernel
theorem dL_law_410 : decode cL_law 410 = .ok (.iload_n 3, 1) := by decide +kernel
theorem dL_law_411 : decode cL_law 411 = .ok (.iconst 1, 1) := by decide +kernel
theorem dL_law_412 : decode cL_law 412 = .ok (.iadd, 1) := by decide +kernel
theorem dL_law_413 : decode cL_law 413 = .ok (.iaload, 1) := by decide +kernel
theorem dL_law_414 : decode cL_law 414 = .ok (.invokevirtual 48, 3) := by decide +kernel
theorem dL_law_417 : decode cL_law 417 = .ok (.aload_n 2, 1) := by decide +kernel
theorem dL_law_418 : decode cL_law 418 = .ok (.aload_n 0, 1) := by decide +kernel
theorem dL_law_419 : decode cL_law 419 = .ok (.iload_n 3, 1) := by decide +kernel
theorem dL_law_420 : decode cL_law 420 = .ok (.iconst 1, 1) := by decide +kernel
theorem dL_law_421 : decode cL_law 421 = .ok (.iadd, 1) := by decide +kernel
theorem dL_law_422 : decode cL_law 422 = .ok (.iaload, 1) := by decide +kernel
theorem dL_law_423 : decode cL_law 423 = .ok (.invokevirtual 51, 3) := by decide +kernel
theorem dL_law_426 : decode cL_law 426 = .ok (.if_icmp .eq 471, 3) := by decide +kernel
theorem dL_law_429 : decode cL_law 429 = .ok (.iconst 0, 1) := by decide +kernel
theorem dL_law_430 : decode cL_law 430 = .ok (.ireturn, 1) := by decide +kernel
theorem dL_law_431 : decode cL_law 431 = .ok (.aload_n 1, 1) := by decide +kernel
theorem dL_law_432 : decode cL_law 432 = .ok (.aload_n 0, 1) := by decide +kernel
theorem dL_law_433 : decode cL_law 433 = .ok (.iload_n 3, 1) := by decide +kernel
theorem dL_law_434 : decode cL_law 434 = .ok (.iconst 1, 1) := by decide +kernel
theorem dL_law_435 : decode cL_law 435 = .ok (.iadd, 1) := by decide +kernel
theorem dL_law_436 : decode cL_law 436 = .ok (.iaload, 1) := by decide +kernel
theorem dL_law_437 : decode cL_law 437 = .ok (.invokevirtual 52, 3) := by decide +kernel
theorem dL_law_440 : decode cL_law 440 = .ok (.aload_n 2, 1) := by decide +kernel
theorem dL_law_441 : decode cL_law 441 = .ok (.aload_n 0, 1) := by decide +kernel
theorem dL_law_442 : decode cL_law 442 = .ok (.iload_n 3, 1) := by decide +kernel
theorem dL_law_443 : decode cL_law 443 = .ok (.iconst 1, 1) := by decide +kernel
theorem dL_law_444 : decode cL_law 444 = .ok (.iadd, 1) := by decide +kernel
theorem dL_law_445 : decode cL_law 445 = .ok (.iaload, 1) := by decide +kernel
theorem dL_law_446 : decode cL_law 446 = .ok (.invokevirtual 55, 3) := by decide +kernel
theorem dL_law_449 : decode cL_law 449 = .ok (.if_icmp .eq 448, 3) := by decide +kernel
theorem dL_law_452 : decode cL_law 452 = .ok (.iconst 0, 1) := by decide +kernel
theorem dL_law_453 : decode cL_law 453 = .ok (.ireturn, 1) := by decide +kernel
theorem dL_law_454 : decode cL_law 454 = .ok (.aload_n 1, 1) := by decide +kernel
theorem dL_law_455 : decode cL_law 455 = .ok (.aload_n 0, 1) := by decide +kernel
theorem dL_law_456 : decode cL_law 456 = .ok (.iload_n 3, 1) := by decide +kernel
theorem dL_law_457 : decode cL_law 457 = .ok (.iconst 1, 1) := by decide +kernel
theorem dL_law_458 : decode cL_law 458 = .ok (.iadd, 1) := by decide +kernel
theorem dL_law_459 : decode cL_law 459 = .ok (.iaload, 1) := by decide +kernel
theorem dL_law_460 : decode cL_law 460 = .ok (.invokevirtual 56, 3) := by decide +kernel
theorem dL_law_463 : decode cL_law 463 = .ok (.aload_n 2, 1) := by decide +kernel
theorem dL_law_464 : decode cL_law 464 = .ok (.aload_n 0, 1) := by decide +kernel
theorem dL_law_465 : decode cL_law 465 = .ok (.iload_n 3, 1) := by decide +kernel
theorem dL_law_466 : decode cL_law 466 = .ok (.iconst 1, 1) := by decide +kernel
theorem dL_law_467 : decode cL_law 467 = .ok (.iadd, 1) := by decide +kernel
theorem dL_law_468 : decode cL_law 468 = .ok (.iaload, 1) := by decide +kernel
theorem dL_law_469 : decode cL_law 469 = .ok (.invokevirtual 59, 3) := by decide +kernel
theorem dL_law_472 : decode cL_law 472 = .ok (.if_icmp .eq 425, 3) := by decide +kernel
theorem dL_law_475 : decode cL_law 475 = .ok (.iconst 0, 1) := by decide +kernel
theorem dL_law_476 : decode cL_law 476 = .ok (.ireturn, 1) := by decide +kernel
theorem dL_law_477 : decode cL_law 477 = .ok (.aload_n 1, 1) := by decide +kernel
theorem dL_law_478 : decode cL_law 478 = .ok (.aload_n 0, 1) := by decide +kernel
theorem dL_law_479 : decode cL_law 479 = .ok (.iload_n 3, 1) := by decide +kernel
theorem dL_law_480 : decode cL_law 480 = .ok (.iconst 1, 1) := by decide +kernel
theorem dL_law_481 : decode cL_law 481 = .ok (.iadd, 1) := by decide +kernel
theorem dL_law_482 : decode cL_law 482 = .ok (.iaload, 1) := by decide +kernel
theorem dL_law_483 : decode cL_law 483 = .ok (.aload_n 0, 1) := by decide +kernel
theorem dL_law_484 : decode cL_law 484 = .ok (.iload_n 3, 1) := by decide +kernel
theorem dL_law_485 : decode cL_law 485 = .ok (.iconst 2, 1) := by decide +kernel
theorem dL_law_486 : decode cL_law 486 = .ok (.iadd, 1) := by decide +kernel
theorem dL_law_487 : decode cL_law 487 = .ok (.iaload, 1) := by decide +kernel
theorem dL_law_488 : decode cL_law 488 = .ok (.invokevirtual 60, 3) := by decide +kernel
theorem dL_law_491 : decode cL_law 491 = .ok (.aload_n 2, 1) := by decide +kernel
theorem dL_law_492 : decode cL_law 492 = .ok (.aload_n 0, 1) := by decide +kernel
theorem dL_law_493 : decode cL_law 493 = .ok (.iload_n 3, 1) := by decide +kernel
theorem dL_law_494 : decode cL_law 494 = .ok (.iconst 1, 1) := by decide +kernel
theorem dL_law_495 : decode cL_law 495 = .ok (.iadd, 1) := by decide +kernel
theorem dL_law_496 : decode cL_law 496 = .ok (.iaload, 1) := by decide +kernel
theorem dL_law_497 : decode cL_law 497 = .ok (.aload_n 0, 1) := by decide +kernel
theorem dL_law_498 : decode cL_law 498 = .ok (.iload_n 3, 1) := by decide +kernel
theorem dL_law_499 : decode cL_law 499 = .ok (.iconst 2, 1) := by decide +kernel
theorem dL_law_500 : decode cL_law 500 = .ok (.iadd, 1) := by decide +kernel
theorem dL_law_501 : decode cL_law 501 = .ok (.iaload, 1) := by decide +kernel
theorem dL_law_502 : decode cL_law 502 = .ok (.invokevirtual 64, 3) := by decide +kernel
theorem dL_law_505 : decode cL_law 505 = .ok (.lcmp, 1) := by decide +kernel
theorem dL_law_506 : decode cL_law 506 = .ok (.ifCond .eq 391, 3) := by decide +kernel
theorem dL_law_509 : decode cL_law 509 = .ok (.iconst 0, 1) := by decide +kernel
theorem dL_law_510 : decode cL_law 510 = .ok (.ireturn, 1) := by decide +kernel
theorem dL_law_511 : decode cL_law 511 = .ok (.aload_n 1, 1) := by decide +kernel
theorem dL_law_512 : decode cL_law 512 = .ok (.aload_n 0, 1) := by decide +kernel
theorem dL_law_513 : decode cL_law 513 = .ok (.iload_n 3, 1) := by decide +kernel
theorem dL_law_514 : decode cL_law 514 = .ok (.iconst 1, 1) := by decide +kernel
theorem dL_law_515 : decode cL_law 515 = .ok (.iadd, 1) := by decide +kernel
theorem dL_law_516 : decode cL_law 516 = .ok (.iaload, 1) := by decide +kernel
theorem dL_law_517 : decode cL_law 517 = .ok (.aload_n 0, 1) := by decide +kernel
theorem dL_law_518 : decode cL_law 518 = .ok (.iload_n 3, 1) := by decide +kernel
theorem dL_law_519 : decode cL_law 519 = .ok (.iconst 2, 1) := by decide +kernel
theorem dL_law_520 : decode cL_law 520 = .ok (.iadd, 1) := by decide +kernel
theorem dL_law_521 : decode cL_law 521 = .ok (.iaload, 1) := by decide +kernel
theorem dL_law_522 : decode cL_law 522 = .ok (.i2l, 1) := by decide +kernel
theorem dL_law_523 : decode cL_law 523 = .ok (.bipush 32, 2) := by decide +kernel
theorem dL_law_525 : decode cL_law 525 = .ok (.lshl, 1) := by decide +kernel
theorem dL_law_526 : decode cL_law 526 = .ok (.aload_n 0, 1) := by decide +kernel
theorem dL_law_527 : decode cL_law 527 = .ok (.iload_n 3, 1) := by decide +kernel
theorem dL_law_528 : decode cL_law 528 = .ok (.iconst 3, 1) := by decide +kernel
theorem dL_law_529 : decode cL_law 529 = .ok (.iadd, 1) := by decide +kernel
theorem dL_law_530 : decode cL_law 530 = .ok (.iaload, 1) := by decide +kernel
theorem dL_law_531 : decode cL_law 531 = .ok (.i2l, 1) := by decide +kernel
theorem dL_law_532 : decode cL_law 532 = .ok (.ldc2_w 65, 3) := by decide +kernel
theorem dL_law_535 : decode cL_law 535 = .ok (.land, 1) := by decide +kernel
theorem dL_law_536 : decode cL_law 536 = .ok (.lor, 1) := by decide +kernel
theorem dL_law_537 : decode cL_law 537 = .ok (.invokevirtual 67, 3) := by decide +kernel
theorem dL_law_540 : decode cL_law 540 = .ok (.aload_n 2, 1) := by decide +kernel
theorem dL_law_541 : decode cL_law 541 = .ok (.aload_n 0, 1) := by decide +kernel
theorem dL_law_542 : decode cL_law 542 = .ok (.iload_n 3, 1) := by decide +kernel
theorem dL_law_543 : decode cL_law 543 = .ok (.iconst 1, 1) := by decide +kernel
theorem dL_law_544 : decode cL_law 544 = .ok (.iadd, 1) := by decide +kernel
theorem dL_law_545 : decode cL_law 545 = .ok (.iaload, 1) := by decide +kernel
theorem dL_law_546 : decode cL_law 546 = .ok (.aload_n 0, 1) := by decide +kernel
theorem dL_law_547 : decode cL_law 547 = .ok (.iload_n 3, 1) := by decide +kernel
theorem dL_law_548 : decode cL_law 548 = .ok (.iconst 2, 1) := by decide +kernel
theorem dL_law_549 : decode cL_law 549 = .ok (.iadd, 1) := by decide +kernel
theorem dL_law_550 : decode cL_law 550 = .ok (.iaload, 1) := by decide +kernel
theorem dL_law_551 : decode cL_law 551 = .ok (.i2l, 1) := by decide +kernel
theorem dL_law_552 : decode cL_law 552 = .ok (.bipush 32, 2) := by decide +kernel
theorem dL_law_554 : decode cL_law 554 = .ok (.lshl, 1) := by decide +kernel
theorem dL_law_555 : decode cL_law 555 = .ok (.aload_n 0, 1) := by decide +kernel
theorem dL_law_556 : decode cL_law 556 = .ok (.iload_n 3, 1) := by decide +kernel
theorem dL_law_557 : decode cL_law 557 = .ok (.iconst 3, 1) := by decide +kernel
theorem dL_law_558 : decode cL_law 558 = .ok (.iadd, 1) := by decide +kernel
theorem dL_law_559 : decode cL_law 559 = .ok (.iaload, 1) := by decide +kernel
theorem dL_law_560 : decode cL_law 560 = .ok (.i2l, 1) := by decide +kernel
theorem dL_law_561 : decode cL_law 561 = .ok (.ldc2_w 65, 3) := by decide +kernel
theorem dL_law_564 : decode cL_law 564 = .ok (.land, 1) := by decide +kernel
theorem dL_law_565 : decode cL_law 565 = .ok (.lor, 1) := by decide +kernel
theorem dL_law_566 : decode cL_law 566 = .ok (.invokevirtual 71, 3) := by decide +kernel
theorem dL_law_569 : decode cL_law 569 = .ok (.if_icmp .eq 328, 3) := by decide +kernel
theorem dL_law_572 : decode cL_law 572 = .ok (.iconst 0, 1) := by decide +kernel
theorem dL_law_573 : decode cL_law 573 = .ok (.ireturn, 1) := by decide +kernel
theorem dL_law_574 : decode cL_law 574 = .ok (.aload_n 1, 1) := by decide +kernel
theorem dL_law_575 : decode cL_law 575 = .ok (.aload_n 0, 1) := by decide +kernel
theorem dL_law_576 : decode cL_law 576 = .ok (.iload_n 3, 1) := by decide +kernel
theorem dL_law_577 : decode cL_law 577 = .ok (.iconst 1, 1) := by decide +kernel
theorem dL_law_578 : decode cL_law 578 = .ok (.iadd, 1) := by decide +kernel
theorem dL_law_579 : decode cL_law 579 = .ok (.iaload, 1) := by decide +kernel
theorem dL_law_580 : decode cL_law 580 = .ok (.aload_n 0, 1) := by decide +kernel
theorem dL_law_581 : decode cL_law 581 = .ok (.iload_n 3, 1) := by decide +kernel
theorem dL_law_582 : decode cL_law 582 = .ok (.iconst 2, 1) := by decide +kernel
theorem dL_law_583 : decode cL_law 583 = .ok (.iadd, 1) := by decide +kernel
theorem dL_law_584 : decode cL_law 584 = .ok (.iaload, 1) := by decide +kernel
theorem dL_law_585 : decode cL_law 585 = .ok (.invokevirtual 72, 3) := by decide +kernel
theorem dL_law_588 : decode cL_law 588 = .ok (.aload_n 2, 1) := by decide +kernel
theorem dL_law_589 : decode cL_law 589 = .ok (.aload_n 0, 1) := by decide +kernel
theorem dL_law_590 : decode cL_law 590 = .ok (.iload_n 3, 1) := by decide +kernel
theorem dL_law_591 : decode cL_law 591 = .ok (.iconst 1, 1) := by decide +kernel
theorem dL_law_592 : decode cL_law 592 = .ok (.iadd, 1) := by decide +kernel
theorem dL_law_593 : decode cL_law 593 = .ok (.iaload, 1) := by decide +kernel
theorem dL_law_594 : decode cL_law 594 = .ok (.aload_n 0, 1) := by decide +kernel
theorem dL_law_595 : decode cL_law 595 = .ok (.iload_n 3, 1) := by decide +kernel
theorem dL_law_596 : decode cL_law 596 = .ok (.iconst 2, 1) := by decide +kernel
theorem dL_law_597 : decode cL_law 597 = .ok (.iadd, 1) := by decide +kernel
theorem dL_law_598 : decode cL_law 598 = .ok (.iaload, 1) := by decide +kernel
theorem dL_law_599 : decode cL_law 599 = .ok (.invokevirtual 75, 3) := by decide +kernel
theorem dL_law_602 : decode cL_law 602 = .ok (.if_icmp .eq 295, 3) := by decide +kernel
theorem dL_law_605 : decode cL_law 605 = .ok (.iconst 0, 1) := by decide +kernel
theorem dL_law_606 : decode cL_law 606 = .ok (.ireturn, 1) := by decide +kernel
theorem dL_law_607 : decode cL_law 607 = .ok (.aload_n 1, 1) := by decide +kernel
theorem dL_law_608 : decode cL_law 608 = .ok (.aload_n 0, 1) := by decide +kernel
theorem dL_law_609 : decode cL_law 609 = .ok (.iload_n 3, 1) := by decide +kernel
theorem dL_law_610 : decode cL_law 610 = .ok (.iconst 1, 1) := by decide +kernel
theorem dL_law_611 : decode cL_law 611 = .ok (.iadd, 1) := by decide +kernel
theorem dL_law_612 : decode cL_law 612 = .ok (.iaload, 1) := by decide +kernel
theorem dL_law_613 : decode cL_law 613 = .ok (.aload_n 0, 1) := by decide +kernel
theorem dL_law_614 : decode cL_law 614 = .ok (.iload_n 3, 1) := by decide +kernel
theorem dL_law_615 : decode cL_law 615 = .ok (.iconst 2, 1) := by decide +kernel
theorem dL_law_616 : decode cL_law 616 = .ok (.iadd, 1) := by decide +kernel
theorem dL_law_617 : decode cL_law 617 = .ok (.iaload, 1) := by decide +kernel
theorem dL_law_618 : decode cL_law 618 = .ok (.aload_n 0, 1) := by decide +kernel
theorem dL_law_619 : decode cL_law 619 = .ok (.iload_n 3, 1) := by decide +kernel
theorem dL_law_620 : decode cL_law 620 = .ok (.iconst 3, 1) := by decide +kernel
theorem dL_law_621 : decode cL_law 621 = .ok (.iadd, 1) := by decide +kernel
theorem dL_law_622 : decode cL_law 622 = .ok (.iaload, 1) := by decide +kernel
theorem dL_law_623 : decode cL_law 623 = .ok (.invokevirtual 76, 3) := by decide +kernel
theorem dL_law_626 : decode cL_law 626 = .ok (.aload_n 2, 1) := by decide +kernel
theorem dL_law_627 : decode cL_law 627 = .ok (.aload_n 0, 1) := by decide +kernel
theorem dL_law_628 : decode cL_law 628 = .ok (.iload_n 3, 1) := by decide +kernel
theorem dL_law_629 : decode cL_law 629 = .ok (.iconst 1, 1) := by decide +kernel
theorem dL_law_630 : decode cL_law 630 = .ok (.iadd, 1) := by decide +kernel
theorem dL_law_631 : decode cL_law 631 = .ok (.iaload, 1) := by decide +kernel
theorem dL_law_632 : decode cL_law 632 = .ok (.aload_n 0, 1) := by decide +kernel
theorem dL_law_633 : decode cL_law 633 = .ok (.iload_n 3, 1) := by decide +kernel
theorem dL_law_634 : decode cL_law 634 = .ok (.iconst 2, 1) := by decide +kernel
theorem dL_law_635 : decode cL_law 635 = .ok (.iadd, 1) := by decide +kernel
theorem dL_law_636 : decode cL_law 636 = .ok (.iaload, 1) := by decide +kernel
theorem dL_law_637 : decode cL_law 637 = .ok (.aload_n 0, 1) := by decide +kernel
theorem dL_law_638 : decode cL_law 638 = .ok (.iload_n 3, 1) := by decide +kernel
theorem dL_law_639 : decode cL_law 639 = .ok (.iconst 3, 1) := by decide +kernel
theorem dL_law_640 : decode cL_law 640 = .ok (.iadd, 1) := by decide +kernel
theorem dL_law_641 : decode cL_law 641 = .ok (.iaload, 1) := by decide +kernel
theorem dL_law_642 : decode cL_law 642 = .ok (.invokevirtual 79, 3) := by decide +kernel
theorem dL_law_645 : decode cL_law 645 = .ok (.if_icmp .eq 252, 3) := by decide +kernel
theorem dL_law_648 : decode cL_law 648 = .ok (.iconst 0, 1) := by decide +kernel
theorem dL_law_649 : decode cL_law 649 = .ok (.ireturn, 1) := by decide +kernel
theorem dL_law_650 : decode cL_law 650 = .ok (.aload_n 1, 1) := by decide +kernel
theorem dL_law_651 : decode cL_law 651 = .ok (.aload_n 0, 1) := by decide +kernel
theorem dL_law_652 : decode cL_law 652 = .ok (.iload_n 3, 1) := by decide +kernel
theorem dL_law_653 : decode cL_law 653 = .ok (.iconst 1, 1) := by decide +kernel
theorem dL_law_654 : decode cL_law 654 = .ok (.iadd, 1) := by decide +kernel
theorem dL_law_655 : decode cL_law 655 = .ok (.iaload, 1) := by decide +kernel
theorem dL_law_656 : decode cL_law 656 = .ok (.aload_n 0, 1) := by decide +kernel
theorem dL_law_657 : decode cL_law 657 = .ok (.iload_n 3, 1) := by decide +kernel
theorem dL_law_658 : decode cL_law 658 = .ok (.iconst 2, 1) := by decide +kernel
theorem dL_law_659 : decode cL_law 659 = .ok (.iadd, 1) := by decide +kernel
theorem dL_law_660 : decode cL_law 660 = .ok (.iaload, 1) := by decide +kernel
theorem dL_law_661 : decode cL_law 661 = .ok (.invokevirtual 80, 3) := by decide +kernel
theorem dL_law_664 : decode cL_law 664 = .ok (.aload_n 2, 1) := by decide +kernel
theorem dL_law_665 : decode cL_law 665 = .ok (.aload_n 0, 1) := by decide +kernel
theorem dL_law_666 : decode cL_law 666 = .ok (.iload_n 3, 1) := by decide +kernel
theorem dL_law_667 : decode cL_law 667 = .ok (.iconst 1, 1) := by decide +kernel
theorem dL_law_668 : decode cL_law 668 = .ok (.iadd, 1) := by decide +kernel
theorem dL_law_669 : decode cL_law 669 = .ok (.iaload, 1) := by decide +kernel
theorem dL_law_670 : decode cL_law 670 = .ok (.aload_n 0, 1) := by decide +kernel
theorem dL_law_671 : decode cL_law 671 = .ok (.iload_n 3, 1) := by decide +kernel
theorem dL_law_672 : decode cL_law 672 = .ok (.iconst 2, 1) := by decide +kernel
theorem dL_law_673 : decode cL_law 673 = .ok (.iadd, 1) := by decide +kernel
theorem dL_law_674 : decode cL_law 674 = .ok (.iaload, 1) := by decide +kernel
theorem dL_law_675 : decode cL_law 675 = .ok (.invokevirtual 83, 3) := by decide +kernel
theorem dL_law_678 : decode cL_law 678 = .ok (.if_icmp .eq 219, 3) := by decide +kernel
theorem dL_law_681 : decode cL_law 681 = .ok (.iconst 0, 1) := by decide +kernel
theorem dL_law_682 : decode cL_law 682 = .ok (.ireturn, 1) := by decide +kernel
theorem dL_law_683 : decode cL_law 683 = .ok (.aload_n 1, 1) := by decide +kernel
theorem dL_law_684 : decode cL_law 684 = .ok (.aload_n 0, 1) := by decide +kernel
theorem dL_law_685 : decode cL_law 685 = .ok (.iload_n 3, 1) := by decide +kernel
theorem dL_law_686 : decode cL_law 686 = .ok (.iconst 1, 1) := by decide +kernel
theorem dL_law_687 : decode cL_law 687 = .ok (.iadd, 1) := by decide +kernel
theorem dL_law_688 : decode cL_law 688 = .ok (.iaload, 1) := by decide +kernel
theorem dL_law_689 : decode cL_law 689 = .ok (.invokevirtual 84, 3) := by decide +kernel
theorem dL_law_692 : decode cL_law 692 = .ok (.aload_n 2, 1) := by decide +kernel
theorem dL_law_693 : decode cL_law 693 = .ok (.aload_n 0, 1) := by decide +kernel
theorem dL_law_694 : decode cL_law 694 = .ok (.iload_n 3, 1) := by decide +kernel
theorem dL_law_695 : decode cL_law 695 = .ok (.iconst 1, 1) := by decide +kernel
theorem dL_law_696 : decode cL_law 696 = .ok (.iadd, 1) := by decide +kernel
theorem dL_law_697 : decode cL_law 697 = .ok (.iaload, 1) := by decide +kernel
theorem dL_law_698 : decode cL_law 698 = .ok (.invokevirtual 87, 3) := by decide +kernel
theorem dL_law_701 : decode cL_law 701 = .ok (.if_icmp .eq 196, 3) := by decide +kernel
theorem dL_law_704 : decode cL_law 704 = .ok (.iconst 0, 1) := by decide +kernel
theorem dL_law_705 : decode cL_law 705 = .ok (.ireturn, 1) := by decide +kernel
theorem dL_law_706 : decode cL_law 706 = .ok (.aload_n 1, 1) := by decide +kernel
theorem dL_law_707 : decode cL_law 707 = .ok (.aload_n 0, 1) := by decide +kernel
theorem dL_law_708 : decode cL_law 708 = .ok (.iload_n 3, 1) := by decide +kernel
theorem dL_law_709 : decode cL_law 709 = .ok (.iconst 1, 1) := by decide +kernel
theorem dL_law_710 : decode cL_law 710 = .ok (.iadd, 1) := by decide +kernel
theorem dL_law_711 : decode cL_law 711 = .ok (.iaload, 1) := by decide +kernel
theorem dL_law_712 : decode cL_law 712 = .ok (.invokevirtual 88, 3) := by decide +kernel
theorem dL_law_715 : decode cL_law 715 = .ok (.aload_n 2, 1) := by decide +kernel
theorem dL_law_716 : decode cL_law 716 = .ok (.aload_n 0, 1) := by decide +kernel
theorem dL_law_717 : decode cL_law 717 = .ok (.iload_n 3, 1) := by decide +kernel
theorem dL_law_718 : decode cL_law 718 = .ok (.iconst 1, 1) := by decide +kernel
theorem dL_law_719 : decode cL_law 719 = .ok (.iadd, 1) := by decide +kernel
theorem dL_law_720 : decode cL_law 720 = .ok (.iaload, 1) := by decide +kernel
theorem dL_law_721 : decode cL_law 721 = .ok (.invokevirtual 91, 3) := by decide +kernel
theorem dL_law_724 : decode cL_law 724 = .ok (.if_icmp .eq 173, 3) := by decide +kernel
theorem dL_law_727 : decode cL_law 727 = .ok (.iconst 0, 1) := by decide +kernel
theorem dL_law_728 : decode cL_law 728 = .ok (.ireturn, 1) := by decide +kernel
theorem dL_law_729 : decode cL_law 729 = .ok (.aload_n 1, 1) := by decide +kernel
theorem dL_law_730 : decode cL_law 730 = .ok (.aload_n 0, 1) := by decide +kernel
theorem dL_law_731 : decode cL_law 731 = .ok (.iload_n 3, 1) := by decide +kernel
theorem dL_law_732 : decode cL_law 732 = .ok (.iconst 1, 1) := by decide +kernel
theorem dL_law_733 : decode cL_law 733 = .ok (.iadd, 1) := by decide +kernel
theorem dL_law_734 : decode cL_law 734 = .ok (.iaload, 1) := by decide +kernel
theorem dL_law_735 : decode cL_law 735 = .ok (.invokevirtual 92, 3) := by decide +kernel
theorem dL_law_738 : decode cL_law 738 = .ok (.aload_n 2, 1) := by decide +kernel
theorem dL_law_739 : decode cL_law 739 = .ok (.aload_n 0, 1) := by decide +kernel
theorem dL_law_740 : decode cL_law 740 = .ok (.iload_n 3, 1) := by decide +kernel
theorem dL_law_741 : decode cL_law 741 = .ok (.iconst 1, 1) := by decide +kernel
theorem dL_law_742 : decode cL_law 742 = .ok (.iadd, 1) := by decide +kernel
theorem dL_law_743 : decode cL_law 743 = .ok (.iaload, 1) := by decide +kernel
theorem dL_law_744 : decode cL_law 744 = .ok (.invokevirtual 95, 3) := by decide +kernel
theorem dL_law_747 : decode cL_law 747 = .ok (.if_icmp .eq 150, 3) := by decide +kernel
theorem dL_law_750 : decode cL_law 750 = .ok (.iconst 0, 1) := by decide +kernel
theorem dL_law_751 : decode cL_law 751 = .ok (.ireturn, 1) := by decide +kernel
theorem dL_law_752 : decode cL_law 752 = .ok (.aload_n 1, 1) := by decide +kernel
theorem dL_law_753 : decode cL_law 753 = .ok (.aload_n 0, 1) := by decide +kernel
theorem dL_law_754 : decode cL_law 754 = .ok (.iload_n 3, 1) := by decide +kernel
theorem dL_law_755 : decode cL_law 755 = .ok (.iconst 1, 1) := by decide +kernel
theorem dL_law_756 : decode cL_law 756 = .ok (.iadd, 1) := by decide +kernel
theorem dL_law_757 : decode cL_law 757 = .ok (.iaload, 1) := by decide +kernel
theorem dL_law_758 : decode cL_law 758 = .ok (.invokevirtual 96, 3) := by decide +kernel
theorem dL_law_761 : decode cL_law 761 = .ok (.aload_n 2, 1) := by decide +kernel
theorem dL_law_762 : decode cL_law 762 = .ok (.aload_n 0, 1) := by decide +kernel
theorem dL_law_763 : decode cL_law 763 = .ok (.iload_n 3, 1) := by decide +kernel
theorem dL_law_764 : decode cL_law 764 = .ok (.iconst 1, 1) := by decide +kernel
theorem dL_law_765 : decode cL_law 765 = .ok (.iadd, 1) := by decide +kernel
theorem dL_law_766 : decode cL_law 766 = .ok (.iaload, 1) := by decide +kernel
theorem dL_law_767 : decode cL_law 767 = .ok (.invokevirtual 99, 3) := by decide +kernel
theorem dL_law_770 : decode cL_law 770 = .ok (.if_icmp .eq 127, 3) := by decide +kernel
theorem dL_law_773 : decode cL_law 773 = .ok (.iconst 0, 1) := by decide +kernel
theorem dL_law_774 : decode cL_law 774 = .ok (.ireturn, 1) := by decide +kernel
theorem dL_law_775 : decode cL_law 775 = .ok (.aload_n 1, 1) := by decide +kernel
theorem dL_law_776 : decode cL_law 776 = .ok (.aload_n 0, 1) := by decide +kernel
theorem dL_law_777 : decode cL_law 777 = .ok (.iload_n 3, 1) := by decide +kernel
theorem dL_law_778 : decode cL_law 778 = .ok (.iconst 1, 1) := by decide +kernel
theorem dL_law_779 : decode cL_law 779 = .ok (.iadd, 1) := by decide +kernel
theorem dL_law_780 : decode cL_law 780 = .ok (.iaload, 1) := by decide +kernel
theorem dL_law_781 : decode cL_law 781 = .ok (.invokevirtual 100, 3) := by decide +kernel
theorem dL_law_784 : decode cL_law 784 = .ok (.aload_n 2, 1) := by decide +kernel
theorem dL_law_785 : decode cL_law 785 = .ok (.aload_n 0, 1) := by decide +kernel
theorem dL_law_786 : decode cL_law 786 = .ok (.iload_n 3, 1) := by decide +kernel
theorem dL_law_787 : decode cL_law 787 = .ok (.iconst 1, 1) := by decide +kernel
theorem dL_law_788 : decode cL_law 788 = .ok (.iadd, 1) := by decide +kernel
theorem dL_law_789 : decode cL_law 789 = .ok (.iaload, 1) := by decide +kernel
theorem dL_law_790 : decode cL_law 790 = .ok (.invokevirtual 103, 3) := by decide +kernel
theorem dL_law_793 : decode cL_law 793 = .ok (.if_icmp .eq 104, 3) := by decide +kernel
theorem dL_law_796 : decode cL_law 796 = .ok (.iconst 0, 1) := by decide +kernel
theorem dL_law_797 : decode cL_law 797 = .ok (.ireturn, 1) := by decide +kernel
theorem dL_law_798 : decode cL_law 798 = .ok (.aload_n 1, 1) := by decide +kernel
theorem dL_law_799 : decode cL_law 799 = .ok (.aload_n 0, 1) := by decide +kernel
theorem dL_law_800 : decode cL_law 800 = .ok (.iload_n 3, 1) := by decide +kernel
theorem dL_law_801 : decode cL_law 801 = .ok (.iconst 1, 1) := by decide +kernel
theorem dL_law_802 : decode cL_law 802 = .ok (.iadd, 1) := by decide +kernel
theorem dL_law_803 : decode cL_law 803 = .ok (.iaload, 1) := by decide +kernel
theorem dL_law_804 : decode cL_law 804 = .ok (.aload_n 0, 1) := by decide +kernel
theorem dL_law_805 : decode cL_law 805 = .ok (.iload_n 3, 1) := by decide +kernel
theorem dL_law_806 : decode cL_law 806 = .ok (.iconst 2, 1) := by decide +kernel
theorem dL_law_807 : decode cL_law 807 = .ok (.iadd, 1) := by decide +kernel
theorem dL_law_808 : decode cL_law 808 = .ok (.iaload, 1) := by decide +kernel
theorem dL_law_809 : decode cL_law 809 = .ok (.invokevirtual 104, 3) := by decide +kernel
theorem dL_law_812 : decode cL_law 812 = .ok (.aload_n 2, 1) := by decide +kernel
theorem dL_law_813 : decode cL_law 813 = .ok (.aload_n 0, 1) := by decide +kernel
theorem dL_law_814 : decode cL_law 814 = .ok (.iload_n 3, 1) := by decide +kernel
theorem dL_law_815 : decode cL_law 815 = .ok (.iconst 1, 1) := by decide +kernel
theorem dL_law_816 : decode cL_law 816 = .ok (.iadd, 1) := by decide +kernel
theorem dL_law_817 : decode cL_law 817 = .ok (.iaload, 1) := by decide +kernel
theorem dL_law_818 : decode cL_law 818 = .ok (.aload_n 0, 1) := by decide +kernel
theorem dL_law_819 : decode cL_law 819 = .ok (.iload_n 3, 1) := by decide +kernel
theorem dL_law_820 : decode cL_law 820 = .ok (.iconst 2, 1) := by decide +kernel
theorem dL_law_821 : decode cL_law 821 = .ok (.iadd, 1) := by decide +kernel
theorem dL_law_822 : decode cL_law 822 = .ok (.iaload, 1) := by decide +kernel
theorem dL_law_823 : decode cL_law 823 = .ok (.invokevirtual 107, 3) := by decide +kernel
theorem dL_law_826 : decode cL_law 826 = .ok (.if_icmp .eq 71, 3) := by decide +kernel
theorem dL_law_829 : decode cL_law 829 = .ok (.iconst 0, 1) := by decide +kernel
theorem dL_law_830 : decode cL_law 830 = .ok (.ireturn, 1) := by decide +kernel
theorem dL_law_831 : decode cL_law 831 = .ok (.aload_n 1, 1) := by decide +kernel
theorem dL_law_832 : decode cL_law 832 = .ok (.aload_n 0, 1) := by decide +kernel
theorem dL_law_833 : decode cL_law 833 = .ok (.iload_n 3, 1) := by decide +kernel
theorem dL_law_834 : decode cL_law 834 = .ok (.iconst 1, 1) := by decide +kernel
theorem dL_law_835 : decode cL_law 835 = .ok (.iadd, 1) := by decide +kernel
theorem dL_law_836 : decode cL_law 836 = .ok (.iaload, 1) := by decide +kernel
theorem dL_law_837 : decode cL_law 837 = .ok (.invokevirtual 108, 3) := by decide +kernel
theorem dL_law_840 : decode cL_law 840 = .ok (.aload_n 2, 1) := by decide +kernel
theorem dL_law_841 : decode cL_law 841 = .ok (.aload_n 0, 1) := by decide +kernel
theorem dL_law_842 : decode cL_law 842 = .ok (.iload_n 3, 1) := by decide +kernel
theorem dL_law_843 : decode cL_law 843 = .ok (.iconst 1, 1) := by decide +kernel
theorem dL_law_844 : decode cL_law 844 = .ok (.iadd, 1) := by decide +kernel
theorem dL_law_845 : decode cL_law 845 = .ok (.iaload, 1) := by decide +kernel
theorem dL_law_846 : decode cL_law 846 = .ok (.invokevirtual 111, 3) := by decide +kernel
theorem dL_law_849 : decode cL_law 849 = .ok (.if_icmp .eq 48, 3) := by decide +kernel
theorem dL_law_852 : decode cL_law 852 = .ok (.iconst 0, 1) := by decide +kernel
theorem dL_law_853 : decode cL_law 853 = .ok (.ireturn, 1) := by decide +kernel
theorem dL_law_854 : decode cL_law 854 = .ok (.aload_n 1, 1) := by decide +kernel
theorem dL_law_855 : decode cL_law 855 = .ok (.aload_n 0, 1) := by decide +kernel
theorem dL_law_856 : decode cL_law 856 = .ok (.iload_n 3, 1) := by decide +kernel
theorem dL_law_857 : decode cL_law 857 = .ok (.iconst 1, 1) := by decide +kernel
theorem dL_law_858 : decode cL_law 858 = .ok (.iadd, 1) := by decide +kernel
theorem dL_law_859 : decode cL_law 859 = .ok (.iaload, 1) := by decide +kernel
theorem dL_law_860 : decode cL_law 860 = .ok (.aload_n 0, 1) := by decide +kernel
theorem dL_law_861 : decode cL_law 861 = .ok (.iload_n 3, 1) := by decide +kernel
theorem dL_law_862 : decode cL_law 862 = .ok (.iconst 2, 1) := by decide +kernel
theorem dL_law_863 : decode cL_law 863 = .ok (.iadd, 1) := by decide +kernel
theorem dL_law_864 : decode cL_law 864 = .ok (.iaload, 1) := by decide +kernel
theorem dL_law_865 : decode cL_law 865 = .ok (.aload_n 0, 1) := by decide +kernel
theorem dL_law_866 : decode cL_law 866 = .ok (.iload_n 3, 1) := by decide +kernel
theorem dL_law_867 : decode cL_law 867 = .ok (.iconst 3, 1) := by decide +kernel
theorem dL_law_868 : decode cL_law 868 = .ok (.iadd, 1) := by decide +kernel
theorem dL_law_869 : decode cL_law 869 = .ok (.iaload, 1) := by decide +kernel
theorem dL_law_870 : decode cL_law 870 = .ok (.invokevirtual 112, 3) := by decide +kernel
theorem dL_law_873 : decode cL_law 873 = .ok (.aload_n 2, 1) := by decide +kernel
theorem dL_law_874 : decode cL_law 874 = .ok (.aload_n 0, 1) := by decide +kernel
theorem dL_law_875 : decode cL_law 875 = .ok (.iload_n 3, 1) := by decide +kernel
theorem dL_law_876 : decode cL_law 876 = .ok (.iconst 1, 1) := by decide +kernel
theorem dL_law_877 : decode cL_law 877 = .ok (.iadd, 1) := by decide +kernel
theorem dL_law_878 : decode cL_law 878 = .ok (.iaload, 1) := by decide +kernel
theorem dL_law_879 : decode cL_law 879 = .ok (.aload_n 0, 1) := by decide +kernel
theorem dL_law_880 : decode cL_law 880 = .ok (.iload_n 3, 1) := by decide +kernel
theorem dL_law_881 : decode cL_law 881 = .ok (.iconst 2, 1) := by decide +kernel
theorem dL_law_882 : decode cL_law 882 = .ok (.iadd, 1) := by decide +kernel
theorem dL_law_883 : decode cL_law 883 = .ok (.iaload, 1) := by decide +kernel
theorem dL_law_884 : decode cL_law 884 = .ok (.aload_n 0, 1) := by decide +kernel
theorem dL_law_885 : decode cL_law 885 = .ok (.iload_n 3, 1) := by decide +kernel
theorem dL_law_886 : decode cL_law 886 = .ok (.iconst 3, 1) := by decide +kernel
theorem dL_law_887 : decode cL_law 887 = .ok (.iadd, 1) := by decide +kernel
theorem dL_law_888 : decode cL_law 888 = .ok (.iaload, 1) := by decide +kernel
theorem dL_law_889 : decode cL_law 889 = .ok (.invokevirtual 115, 3) := by decide +kernel
theorem dL_law_892 : decode cL_law 892 = .ok (.if_icmp .eq 5, 3) := by decide +kernel
theorem dL_law_895 : decode cL_law 895 = .ok (.iconst 0, 1) := by decide +kernel
theorem dL_law_896 : decode cL_law 896 = .ok (.ireturn, 1) := by decide +kernel
theorem dL_law_897 : decode cL_law 897 = .ok (.iinc 3 4, 3) := by decide +kernel
theorem dL_law_900 : decode cL_law 900 = .ok (.goto (-882), 3) := by decide +kernel
theorem dL_law_903 : decode cL_law 903 = .ok (.iconst 1, 1) := by decide +kernel
theorem dL_law_904 : decode cL_law 904 = .ok (.ireturn, 1) := by decide +kernel
end
section
/-! WHAT IS GIVEN OF THE TABLES, for every method alike: pz_U, the words that last; pz_NM, the links to private members of nest mates; pz_ty, the array classes by their tags. -/
def pz_U : List Cond := lw_tbl.filter goodWord
theorem pz_in {w : Cond} (i : Nat) (h : lw_tbl[i]? = some w) (g : goodWord w = true) : w ∈ pz_U := List.mem_filter.mpr ⟨List.mem_of_getElem? h, g⟩
theorem pz_good : ∀ w ∈ pz_U, (w.onTables && w.keeps) = true ∨ ∃ ty, w = .arrayClass ty := fun _ h => good_of_word (List.mem_filter.mp h).2
def pz_ty : List FieldType := [.int, .long, .object "CreaseFlat$Paper", .array .int, .boolean]
def pz_NF : List (String × Nat × String × String × String × String) := []
def pz_NM : List (String × Nat × MethodName × String) := [("CreaseFlat", 21, ⟨"CreaseFlat$Pile", "<init>", "()V"⟩, "CreaseFlat"), ("CreaseFlat", 55, ⟨"CreaseFlat$Lay", "<init>", "()V"⟩, "CreaseFlat"), ("CreaseFlat", 62, ⟨"CreaseFlat$Ways", "<init>", "()V"⟩, "CreaseFlat"), ("CreaseFlat$Pile", 60, ⟨"CreaseFlat", "has", "(II)Z"⟩, "CreaseFlat"), ("CreaseFlat$Paper", 112, ⟨"CreaseFlat", "has", "(II)Z"⟩, "CreaseFlat"), ("CreaseFlat$Lay", 31, ⟨"CreaseFlat", "has", "(II)Z"⟩, "CreaseFlat"), ("CreaseFlat$Ways", 51, ⟨"CreaseFlat", "has", "(II)Z"⟩, "CreaseFlat")]
def pz_AO : List String := ["CreaseFlat$Paper"]
abbrev pz_M : Type := MethodName × ByteArray × Nat × Option FieldType
/-- a link to a field: class ci, field k; and what a store to it needs (fin: it is final, and the storing method is a constructor) -/
def pz_FL (own : String) (idx ci k : Nat) : Prop := ∃ (C : String) (T : u_T) (N : Nat), vwCl[ci]? = some (C, T, N) ∧ k < N ∧ (∀ w ∈ u_ws C T N, w ∈ pz_U) ∧ Cond.fieldLink own idx (T k).1 (T k).2.1 (T k).2.2.1 ∈ pz_U
def pz_FP (own : String) (idx ci k : Nat) (ty : FieldType) (fin : Bool) : Prop := ∃ (C : String) (T : u_T) (N : Nat) (ty0 : Nat → FieldType), vwCl[ci]? = some (C, T, N) ∧ k < N ∧ (∀ w ∈ u_ws C T N, w ∈ pz_U) ∧ Cond.fieldLink own idx (T k).1 (T k).2.1 (T k).2.2.1 ∈ pz_U ∧ (∀ k, k < N → parseFieldDescriptor (T k).2.2.1 = some (ty0 k)) ∧ (∀ a, a < N → ∀ b, b < N → a ≠ b → (T a).2.1 ≠ (T b).2.1) ∧ (T k).2.2.2 = fin ∧ parseFieldDescriptor (T k).2.2.1 = some ty ∧ (fin = true → (T k).1 = own)
def pz_MF (M : pz_M) (n : Nat) : Prop := Cond.code M.1 M.2.1 M.2.2.1 M.2.2.2 ∈ pz_U ∧ Cond.initialized M.1.cls ∈ pz_U ∧ (M.1.cls ≠ "java/lang/invoke/MethodHandle" ∧ M.1.cls ≠ "java/lang/invoke/VarHandle" ∧ (parseMethodDescriptor M.1.desc).map (fun d => d.parameters.length) = some n) ∧ M.2.2.1 ≤ 19
end
section
/-! THE LINKS of the classes: fields, methods, constants, by their places among the words -/
theorem pi_X0 : ∀ w ∈ u_ws RX0 TX0 3, w ∈ pz_U := fun w hw => List.mem_filter.mpr ⟨(show ∀ w ∈ u_ws RX0 TX0 3, w ∈ lw_tbl by decide +kernel) w hw, (show ∀ w ∈ u_ws RX0 TX0 3, goodWord w = true by decide +kernel) w hw⟩
theorem pi_X1 : ∀ w ∈ u_ws RX1 TX1 18, w ∈ pz_U := fun w hw => List.mem_filter.mpr ⟨(show ∀ w ∈ u_ws RX1 TX1 18, w ∈ lw_tbl by decide +kernel) w hw, (show ∀ w ∈ u_ws RX1 TX1 18, goodWord w = true by decide +kernel) w hw⟩
theorem pi_X2 : ∀ w ∈ u_ws RX2 TX2 10, w ∈ pz_U := fun w hw => List.mem_filter.mpr ⟨(show ∀ w ∈ u_ws RX2 TX2 10, w ∈ lw_tbl by decide +kernel) w hw, (show ∀ w ∈ u_ws RX2 TX2 10, goodWord w = true by decide +kernel) w hw⟩
theorem pi_X3 : ∀ w ∈ u_ws RX3 TX3 3, w ∈ pz_U := fun w hw => List.mem_filter.mpr ⟨(show ∀ w ∈ u_ws RX3 TX3 3, w ∈ lw_tbl by decide +kernel) w hw, (show ∀ w ∈ u_ws RX3 TX3 3, goodWord w = true by decide +kernel) w hw⟩
theorem pi_X4 : ∀ w ∈ u_ws RX4 TX4 15, w ∈ pz_U := fun w hw => List.mem_filter.mpr ⟨(show ∀ w ∈ u_ws RX4 TX4 15, w ∈ lw_tbl by decide +kernel) w hw, (show ∀ w ∈ u_ws RX4 TX4 15, goodWord w = true by decide +kernel) w hw⟩
theorem pi_X5 : ∀ w ∈ u_ws RX5 TX5 29, w ∈ pz_U := fun w hw => List.mem_filter.mpr ⟨(show ∀ w ∈ u_ws RX5 TX5 29, w ∈ lw_tbl by decide +kernel) w hw, (show ∀ w ∈ u_ws RX5 TX5 29, goodWord w = true by decide +kernel) w hw⟩
theorem fl_X2_9 : pz_FL RX2 9 2 0 := ⟨RX2, TX2, 10, rfl, by decide, pi_X2, pz_in 83 (by decide +kernel) rfl⟩
theorem fp_X2_9 : pz_FP RX2 9 2 0 (.object "CreaseFlat$Paper") false := ⟨RX2, TX2, 10, tyX2, rfl, by decide, pi_X2, pz_in 83 (by decide +kernel) rfl, tyX2_ok, nmX2, rfl, by decide +kernel, fun h => by cases h⟩
theorem fl_X2_15 : pz_FL RX2 15 2 1 := ⟨RX2, TX2, 10, rfl, by decide, pi_X2, pz_in 84 (by decide +kernel) rfl⟩
theorem fp_X2_15 : pz_FP RX2 15 2 1 (.array .int) true := ⟨RX2, TX2, 10, tyX2, rfl, by decide, pi_X2, pz_in 84 (by decide +kernel) rfl, tyX2_ok, nmX2, rfl, by decide +kernel, fun _ => rfl⟩
theorem fl_X4_135 : pz_FL RX4 135 2 1 := ⟨RX2, TX2, 10, rfl, by decide, pi_X2, pz_in 85 (by decide +kernel) rfl⟩
theorem fl_X2_19 : pz_FL RX2 19 2 2 := ⟨RX2, TX2, 10, rfl, by decide, pi_X2, pz_in 86 (by decide +kernel) rfl⟩
theorem fp_X2_19 : pz_FP RX2 19 2 2 (.array .int) true := ⟨RX2, TX2, 10, tyX2, rfl, by decide, pi_X2, pz_in 86 (by decide +kernel) rfl, tyX2_ok, nmX2, rfl, by decide +kernel, fun _ => rfl⟩
theorem fl_X4_144 : pz_FL RX4 144 2 2 := ⟨RX2, TX2, 10, rfl, by decide, pi_X2, pz_in 87 (by decide +kernel) rfl⟩
theorem fl_X2_22 : pz_FL RX2 22 2 3 := ⟨RX2, TX2, 10, rfl, by decide, pi_X2, pz_in 88 (by decide +kernel) rfl⟩
theorem fp_X2_22 : pz_FP RX2 22 2 3 .int false := ⟨RX2, TX2, 10, tyX2, rfl, by decide, pi_X2, pz_in 88 (by decide +kernel) rfl, tyX2_ok, nmX2, rfl, by decide +kernel, fun h => by cases h⟩
theorem fl_X2_26 : pz_FL RX2 26 2 4 := ⟨RX2, TX2, 10, rfl, by decide, pi_X2, pz_in 89 (by decide +kernel) rfl⟩
theorem fp_X2_26 : pz_FP RX2 26 2 4 .int false := ⟨RX2, TX2, 10, tyX2, rfl, by decide, pi_X2, pz_in 89 (by decide +kernel) rfl, tyX2_ok, nmX2, rfl, by decide +kernel, fun h => by cases h⟩
theorem fl_X2_29 : pz_FL RX2 29 2 5 := ⟨RX2, TX2, 10, rfl, by decide, pi_X2, pz_in 90 (by decide +kernel) rfl⟩
theorem fp_X2_29 : pz_FP RX2 29 2 5 (.array .int) true := ⟨RX2, TX2, 10, tyX2, rfl, by decide, pi_X2, pz_in 90 (by decide +kernel) rfl, tyX2_ok, nmX2, rfl, by decide +kernel, fun _ => rfl⟩
theorem fl_X2_32 : pz_FL RX2 32 2 6 := ⟨RX2, TX2, 10, rfl, by decide, pi_X2, pz_in 91 (by decide +kernel) rfl⟩
theorem fp_X2_32 : pz_FP RX2 32 2 6 .int false := ⟨RX2, TX2, 10, tyX2, rfl, by decide, pi_X2, pz_in 91 (by decide +kernel) rfl, tyX2_ok, nmX2, rfl, by decide +kernel, fun h => by cases h⟩
theorem fl_X2_35 : pz_FL RX2 35 2 7 := ⟨RX2, TX2, 10, rfl, by decide, pi_X2, pz_in 92 (by decide +kernel) rfl⟩
theorem fp_X2_35 : pz_FP RX2 35 2 7 (.array .int) true := ⟨RX2, TX2, 10, tyX2, rfl, by decide, pi_X2, pz_in 92 (by decide +kernel) rfl, tyX2_ok, nmX2, rfl, by decide +kernel, fun _ => rfl⟩
theorem fl_X2_38 : pz_FL RX2 38 2 8 := ⟨RX2, TX2, 10, rfl, by decide, pi_X2, pz_in 93 (by decide +kernel) rfl⟩
theorem fp_X2_38 : pz_FP RX2 38 2 8 (.array .int) true := ⟨RX2, TX2, 10, tyX2, rfl, by decide, pi_X2, pz_in 93 (by decide +kernel) rfl, tyX2_ok, nmX2, rfl, by decide +kernel, fun _ => rfl⟩
theorem fl_X2_41 : pz_FL RX2 41 2 9 := ⟨RX2, TX2, 10, rfl, by decide, pi_X2, pz_in 94 (by decide +kernel) rfl⟩
theorem fp_X2_41 : pz_FP RX2 41 2 9 .boolean false := ⟨RX2, TX2, 10, tyX2, rfl, by decide, pi_X2, pz_in 94 (by decide +kernel) rfl, tyX2_ok, nmX2, rfl, by decide +kernel, fun h => by cases h⟩
theorem fl_X0_9 : pz_FL RX0 9 0 0 := ⟨RX0, TX0, 3, rfl, by decide, pi_X0, pz_in 125 (by decide +kernel) rfl⟩
theorem fp_X0_9 : pz_FP RX0 9 0 0 .int false := ⟨RX0, TX0, 3, tyX0, rfl, by decide, pi_X0, pz_in 125 (by decide +kernel) rfl, tyX0_ok, nmX0, rfl, by decide +kernel, fun h => by cases h⟩
theorem fl_X0_17 : pz_FL RX0 17 0 1 := ⟨RX0, TX0, 3, rfl, by decide, pi_X0, pz_in 126 (by decide +kernel) rfl⟩
theorem fp_X0_17 : pz_FP RX0 17 0 1 (.array (.array .int)) true := ⟨RX0, TX0, 3, tyX0, rfl, by decide, pi_X0, pz_in 126 (by decide +kernel) rfl, tyX0_ok, nmX0, rfl, by decide +kernel, fun _ => rfl⟩
theorem fl_X3_55 : pz_FL RX3 55 0 1 := ⟨RX0, TX0, 3, rfl, by decide, pi_X0, pz_in 127 (by decide +kernel) rfl⟩
theorem fl_X4_237 : pz_FL RX4 237 0 1 := ⟨RX0, TX0, 3, rfl, by decide, pi_X0, pz_in 128 (by decide +kernel) rfl⟩
theorem fl_X0_20 : pz_FL RX0 20 0 2 := ⟨RX0, TX0, 3, rfl, by decide, pi_X0, pz_in 129 (by decide +kernel) rfl⟩
theorem fp_X0_20 : pz_FP RX0 20 0 2 (.array (.array .int)) true := ⟨RX0, TX0, 3, tyX0, rfl, by decide, pi_X0, pz_in 129 (by decide +kernel) rfl, tyX0_ok, nmX0, rfl, by decide +kernel, fun _ => rfl⟩
theorem fl_X4_243 : pz_FL RX4 243 0 2 := ⟨RX0, TX0, 3, rfl, by decide, pi_X0, pz_in 130 (by decide +kernel) rfl⟩
theorem fl_X3_9 : pz_FL RX3 9 3 0 := ⟨RX3, TX3, 3, rfl, by decide, pi_X3, pz_in 145 (by decide +kernel) rfl⟩
theorem fp_X3_9 : pz_FP RX3 9 3 0 (.array .int) true := ⟨RX3, TX3, 3, tyX3, rfl, by decide, pi_X3, pz_in 145 (by decide +kernel) rfl, tyX3_ok, nmX3, rfl, by decide +kernel, fun _ => rfl⟩
theorem fl_X4_213 : pz_FL RX4 213 3 0 := ⟨RX3, TX3, 3, rfl, by decide, pi_X3, pz_in 146 (by decide +kernel) rfl⟩
theorem fl_X3_15 : pz_FL RX3 15 3 1 := ⟨RX3, TX3, 3, rfl, by decide, pi_X3, pz_in 147 (by decide +kernel) rfl⟩
theorem fp_X3_15 : pz_FP RX3 15 3 1 (.array .int) true := ⟨RX3, TX3, 3, tyX3, rfl, by decide, pi_X3, pz_in 147 (by decide +kernel) rfl, tyX3_ok, nmX3, rfl, by decide +kernel, fun _ => rfl⟩
theorem fl_X3_18 : pz_FL RX3 18 3 2 := ⟨RX3, TX3, 3, rfl, by decide, pi_X3, pz_in 148 (by decide +kernel) rfl⟩
theorem fp_X3_18 : pz_FP RX3 18 3 2 (.array .int) true := ⟨RX3, TX3, 3, tyX3, rfl, by decide, pi_X3, pz_in 148 (by decide +kernel) rfl, tyX3_ok, nmX3, rfl, by decide +kernel, fun _ => rfl⟩
theorem fl_X4_11 : pz_FL RX4 11 4 0 := ⟨RX4, TX4, 15, rfl, by decide, pi_X4, pz_in 156 (by decide +kernel) rfl⟩
theorem fp_X4_11 : pz_FP RX4 11 4 0 (.array (.object "CreaseFlat$Paper")) true := ⟨RX4, TX4, 15, tyX4, rfl, by decide, pi_X4, pz_in 156 (by decide +kernel) rfl, tyX4_ok, nmX4, rfl, by decide +kernel, fun _ => rfl⟩
theorem fl_X4_15 : pz_FL RX4 15 4 1 := ⟨RX4, TX4, 15, rfl, by decide, pi_X4, pz_in 157 (by decide +kernel) rfl⟩
theorem fp_X4_15 : pz_FP RX4 15 4 1 .int false := ⟨RX4, TX4, 15, tyX4, rfl, by decide, pi_X4, pz_in 157 (by decide +kernel) rfl, tyX4_ok, nmX4, rfl, by decide +kernel, fun h => by cases h⟩
theorem fl_X4_22 : pz_FL RX4 22 4 2 := ⟨RX4, TX4, 15, rfl, by decide, pi_X4, pz_in 158 (by decide +kernel) rfl⟩
theorem fp_X4_22 : pz_FP RX4 22 4 2 (.object "CreaseFlat$Pile") true := ⟨RX4, TX4, 15, tyX4, rfl, by decide, pi_X4, pz_in 158 (by decide +kernel) rfl, tyX4_ok, nmX4, rfl, by decide +kernel, fun _ => rfl⟩
theorem fl_X4_26 : pz_FL RX4 26 4 3 := ⟨RX4, TX4, 15, rfl, by decide, pi_X4, pz_in 159 (by decide +kernel) rfl⟩
theorem fp_X4_26 : pz_FP RX4 26 4 3 (.object "CreaseFlat$Pile") true := ⟨RX4, TX4, 15, tyX4, rfl, by decide, pi_X4, pz_in 159 (by decide +kernel) rfl, tyX4_ok, nmX4, rfl, by decide +kernel, fun _ => rfl⟩
theorem fl_X4_29 : pz_FL RX4 29 4 4 := ⟨RX4, TX4, 15, rfl, by decide, pi_X4, pz_in 160 (by decide +kernel) rfl⟩
theorem fp_X4_29 : pz_FP RX4 29 4 4 (.object "CreaseFlat$Paper") false := ⟨RX4, TX4, 15, tyX4, rfl, by decide, pi_X4, pz_in 160 (by decide +kernel) rfl, tyX4_ok, nmX4, rfl, by decide +kernel, fun h => by cases h⟩
theorem fl_X4_33 : pz_FL RX4 33 4 5 := ⟨RX4, TX4, 15, rfl, by decide, pi_X4, pz_in 161 (by decide +kernel) rfl⟩
theorem fp_X4_33 : pz_FP RX4 33 4 5 (.array .int) true := ⟨RX4, TX4, 15, tyX4, rfl, by decide, pi_X4, pz_in 161 (by decide +kernel) rfl, tyX4_ok, nmX4, rfl, by decide +kernel, fun _ => rfl⟩
theorem fl_X4_37 : pz_FL RX4 37 4 6 := ⟨RX4, TX4, 15, rfl, by decide, pi_X4, pz_in 162 (by decide +kernel) rfl⟩
theorem fp_X4_37 : pz_FP RX4 37 4 6 (.array .int) true := ⟨RX4, TX4, 15, tyX4, rfl, by decide, pi_X4, pz_in 162 (by decide +kernel) rfl, tyX4_ok, nmX4, rfl, by decide +kernel, fun _ => rfl⟩
theorem fl_X4_40 : pz_FL RX4 40 4 7 := ⟨RX4, TX4, 15, rfl, by decide, pi_X4, pz_in 163 (by decide +kernel) rfl⟩
theorem fp_X4_40 : pz_FP RX4 40 4 7 (.array .int) true := ⟨RX4, TX4, 15, tyX4, rfl, by decide, pi_X4, pz_in 163 (by decide +kernel) rfl, tyX4_ok, nmX4, rfl, by decide +kernel, fun _ => rfl⟩
theorem fl_X4_43 : pz_FL RX4 43 4 8 := ⟨RX4, TX4, 15, rfl, by decide, pi_X4, pz_in 164 (by decide +kernel) rfl⟩
theorem fp_X4_43 : pz_FP RX4 43 4 8 (.array .long) true := ⟨RX4, TX4, 15, tyX4, rfl, by decide, pi_X4, pz_in 164 (by decide +kernel) rfl, tyX4_ok, nmX4, rfl, by decide +kernel, fun _ => rfl⟩
theorem fl_X4_47 : pz_FL RX4 47 4 9 := ⟨RX4, TX4, 15, rfl, by decide, pi_X4, pz_in 165 (by decide +kernel) rfl⟩
theorem fp_X4_47 : pz_FP RX4 47 4 9 (.array .int) true := ⟨RX4, TX4, 15, tyX4, rfl, by decide, pi_X4, pz_in 165 (by decide +kernel) rfl, tyX4_ok, nmX4, rfl, by decide +kernel, fun _ => rfl⟩
theorem fl_X4_50 : pz_FL RX4 50 4 10 := ⟨RX4, TX4, 15, rfl, by decide, pi_X4, pz_in 166 (by decide +kernel) rfl⟩
theorem fp_X4_50 : pz_FP RX4 50 4 10 .int false := ⟨RX4, TX4, 15, tyX4, rfl, by decide, pi_X4, pz_in 166 (by decide +kernel) rfl, tyX4_ok, nmX4, rfl, by decide +kernel, fun h => by cases h⟩
theorem fl_X4_56 : pz_FL RX4 56 4 11 := ⟨RX4, TX4, 15, rfl, by decide, pi_X4, pz_in 167 (by decide +kernel) rfl⟩
theorem fp_X4_56 : pz_FP RX4 56 4 11 (.object "CreaseFlat$Lay") true := ⟨RX4, TX4, 15, tyX4, rfl, by decide, pi_X4, pz_in 167 (by decide +kernel) rfl, tyX4_ok, nmX4, rfl, by decide +kernel, fun _ => rfl⟩
theorem fl_X4_63 : pz_FL RX4 63 4 12 := ⟨RX4, TX4, 15, rfl, by decide, pi_X4, pz_in 168 (by decide +kernel) rfl⟩
theorem fp_X4_63 : pz_FP RX4 63 4 12 (.object "CreaseFlat$Ways") true := ⟨RX4, TX4, 15, tyX4, rfl, by decide, pi_X4, pz_in 168 (by decide +kernel) rfl, tyX4_ok, nmX4, rfl, by decide +kernel, fun _ => rfl⟩
theorem fl_X4_67 : pz_FL RX4 67 4 13 := ⟨RX4, TX4, 15, rfl, by decide, pi_X4, pz_in 169 (by decide +kernel) rfl⟩
theorem fp_X4_67 : pz_FP RX4 67 4 13 (.array .int) true := ⟨RX4, TX4, 15, tyX4, rfl, by decide, pi_X4, pz_in 169 (by decide +kernel) rfl, tyX4_ok, nmX4, rfl, by decide +kernel, fun _ => rfl⟩
theorem fl_X4_70 : pz_FL RX4 70 4 14 := ⟨RX4, TX4, 15, rfl, by decide, pi_X4, pz_in 170 (by decide +kernel) rfl⟩
theorem fp_X4_70 : pz_FP RX4 70 4 14 .int false := ⟨RX4, TX4, 15, tyX4, rfl, by decide, pi_X4, pz_in 170 (by decide +kernel) rfl, tyX4_ok, nmX4, rfl, by decide +kernel, fun h => by cases h⟩
theorem fl_X1_55 : pz_FL RX1 55 1 0 := ⟨RX1, TX1, 18, rfl, by decide, pi_X1, pz_in 263 (by decide +kernel) rfl⟩
theorem fp_X1_55 : pz_FP RX1 55 1 0 .int true := ⟨RX1, TX1, 18, tyX1, rfl, by decide, pi_X1, pz_in 263 (by decide +kernel) rfl, tyX1_ok, nmX1, rfl, by decide +kernel, fun _ => rfl⟩
theorem fl_X4_85 : pz_FL RX4 85 1 0 := ⟨RX1, TX1, 18, rfl, by decide, pi_X1, pz_in 264 (by decide +kernel) rfl⟩
theorem fl_X1_58 : pz_FL RX1 58 1 1 := ⟨RX1, TX1, 18, rfl, by decide, pi_X1, pz_in 265 (by decide +kernel) rfl⟩
theorem fp_X1_58 : pz_FP RX1 58 1 1 .int true := ⟨RX1, TX1, 18, tyX1, rfl, by decide, pi_X1, pz_in 265 (by decide +kernel) rfl, tyX1_ok, nmX1, rfl, by decide +kernel, fun _ => rfl⟩
theorem fl_X0_44 : pz_FL RX0 44 1 1 := ⟨RX1, TX1, 18, rfl, by decide, pi_X1, pz_in 266 (by decide +kernel) rfl⟩
theorem fl_X1_61 : pz_FL RX1 61 1 2 := ⟨RX1, TX1, 18, rfl, by decide, pi_X1, pz_in 267 (by decide +kernel) rfl⟩
theorem fp_X1_61 : pz_FP RX1 61 1 2 .int true := ⟨RX1, TX1, 18, tyX1, rfl, by decide, pi_X1, pz_in 267 (by decide +kernel) rfl, tyX1_ok, nmX1, rfl, by decide +kernel, fun _ => rfl⟩
theorem fl_X0_41 : pz_FL RX0 41 1 2 := ⟨RX1, TX1, 18, rfl, by decide, pi_X1, pz_in 268 (by decide +kernel) rfl⟩
theorem fl_X1_64 : pz_FL RX1 64 1 3 := ⟨RX1, TX1, 18, rfl, by decide, pi_X1, pz_in 269 (by decide +kernel) rfl⟩
theorem fp_X1_64 : pz_FP RX1 64 1 3 .int true := ⟨RX1, TX1, 18, tyX1, rfl, by decide, pi_X1, pz_in 269 (by decide +kernel) rfl, tyX1_ok, nmX1, rfl, by decide +kernel, fun _ => rfl⟩
theorem fl_X2_110 : pz_FL RX2 110 1 3 := ⟨RX1, TX1, 18, rfl, by decide, pi_X1, pz_in 270 (by decide +kernel) rfl⟩
theorem fl_X4_100 : pz_FL RX4 100 1 3 := ⟨RX1, TX1, 18, rfl, by decide, pi_X1, pz_in 271 (by decide +kernel) rfl⟩
theorem fl_X1_9 : pz_FL RX1 9 1 4 := ⟨RX1, TX1, 18, rfl, by decide, pi_X1, pz_in 272 (by decide +kernel) rfl⟩
theorem fp_X1_9 : pz_FP RX1 9 1 4 .int false := ⟨RX1, TX1, 18, tyX1, rfl, by decide, pi_X1, pz_in 272 (by decide +kernel) rfl, tyX1_ok, nmX1, rfl, by decide +kernel, fun h => by cases h⟩
theorem fl_X2_55 : pz_FL RX2 55 1 4 := ⟨RX1, TX1, 18, rfl, by decide, pi_X1, pz_in 273 (by decide +kernel) rfl⟩
theorem fl_X4_103 : pz_FL RX4 103 1 4 := ⟨RX1, TX1, 18, rfl, by decide, pi_X1, pz_in 274 (by decide +kernel) rfl⟩
theorem fl_X0_68 : pz_FL RX0 68 1 4 := ⟨RX1, TX1, 18, rfl, by decide, pi_X1, pz_in 275 (by decide +kernel) rfl⟩
theorem fl_X1_15 : pz_FL RX1 15 1 5 := ⟨RX1, TX1, 18, rfl, by decide, pi_X1, pz_in 276 (by decide +kernel) rfl⟩
theorem fp_X1_15 : pz_FP RX1 15 1 5 (.array .int) true := ⟨RX1, TX1, 18, tyX1, rfl, by decide, pi_X1, pz_in 276 (by decide +kernel) rfl, tyX1_ok, nmX1, rfl, by decide +kernel, fun _ => rfl⟩
theorem fl_X0_50 : pz_FL RX0 50 1 5 := ⟨RX1, TX1, 18, rfl, by decide, pi_X1, pz_in 277 (by decide +kernel) rfl⟩
theorem fl_X4_249 : pz_FL RX4 249 1 5 := ⟨RX1, TX1, 18, rfl, by decide, pi_X1, pz_in 278 (by decide +kernel) rfl⟩
theorem fl_X1_19 : pz_FL RX1 19 1 6 := ⟨RX1, TX1, 18, rfl, by decide, pi_X1, pz_in 279 (by decide +kernel) rfl⟩
theorem fp_X1_19 : pz_FP RX1 19 1 6 (.array .int) true := ⟨RX1, TX1, 18, tyX1, rfl, by decide, pi_X1, pz_in 279 (by decide +kernel) rfl, tyX1_ok, nmX1, rfl, by decide +kernel, fun _ => rfl⟩
theorem fl_X0_47 : pz_FL RX0 47 1 6 := ⟨RX1, TX1, 18, rfl, by decide, pi_X1, pz_in 280 (by decide +kernel) rfl⟩
theorem fl_X4_240 : pz_FL RX4 240 1 6 := ⟨RX1, TX1, 18, rfl, by decide, pi_X1, pz_in 281 (by decide +kernel) rfl⟩
theorem fl_X1_22 : pz_FL RX1 22 1 7 := ⟨RX1, TX1, 18, rfl, by decide, pi_X1, pz_in 282 (by decide +kernel) rfl⟩
theorem fp_X1_22 : pz_FP RX1 22 1 7 (.array .int) true := ⟨RX1, TX1, 18, tyX1, rfl, by decide, pi_X1, pz_in 282 (by decide +kernel) rfl, tyX1_ok, nmX1, rfl, by decide +kernel, fun _ => rfl⟩
theorem fl_X0_35 : pz_FL RX0 35 1 7 := ⟨RX1, TX1, 18, rfl, by decide, pi_X1, pz_in 283 (by decide +kernel) rfl⟩
theorem fl_X4_88 : pz_FL RX4 88 1 7 := ⟨RX1, TX1, 18, rfl, by decide, pi_X1, pz_in 284 (by decide +kernel) rfl⟩
theorem fl_X1_25 : pz_FL RX1 25 1 8 := ⟨RX1, TX1, 18, rfl, by decide, pi_X1, pz_in 285 (by decide +kernel) rfl⟩
theorem fp_X1_25 : pz_FP RX1 25 1 8 (.array .int) true := ⟨RX1, TX1, 18, tyX1, rfl, by decide, pi_X1, pz_in 285 (by decide +kernel) rfl, tyX1_ok, nmX1, rfl, by decide +kernel, fun _ => rfl⟩
theorem fl_X4_115 : pz_FL RX4 115 1 8 := ⟨RX1, TX1, 18, rfl, by decide, pi_X1, pz_in 286 (by decide +kernel) rfl⟩
theorem fl_X1_28 : pz_FL RX1 28 1 9 := ⟨RX1, TX1, 18, rfl, by decide, pi_X1, pz_in 287 (by decide +kernel) rfl⟩
theorem fp_X1_28 : pz_FP RX1 28 1 9 (.array .int) true := ⟨RX1, TX1, 18, tyX1, rfl, by decide, pi_X1, pz_in 287 (by decide +kernel) rfl, tyX1_ok, nmX1, rfl, by decide +kernel, fun _ => rfl⟩
theorem fl_X2_75 : pz_FL RX2 75 1 9 := ⟨RX1, TX1, 18, rfl, by decide, pi_X1, pz_in 288 (by decide +kernel) rfl⟩
theorem fl_X4_118 : pz_FL RX4 118 1 9 := ⟨RX1, TX1, 18, rfl, by decide, pi_X1, pz_in 289 (by decide +kernel) rfl⟩
theorem fl_X0_77 : pz_FL RX0 77 1 9 := ⟨RX1, TX1, 18, rfl, by decide, pi_X1, pz_in 290 (by decide +kernel) rfl⟩
theorem fl_X1_31 : pz_FL RX1 31 1 10 := ⟨RX1, TX1, 18, rfl, by decide, pi_X1, pz_in 291 (by decide +kernel) rfl⟩
theorem fp_X1_31 : pz_FP RX1 31 1 10 (.array .int) true := ⟨RX1, TX1, 18, tyX1, rfl, by decide, pi_X1, pz_in 291 (by decide +kernel) rfl, tyX1_ok, nmX1, rfl, by decide +kernel, fun _ => rfl⟩
theorem fl_X2_78 : pz_FL RX2 78 1 10 := ⟨RX1, TX1, 18, rfl, by decide, pi_X1, pz_in 292 (by decide +kernel) rfl⟩
theorem fl_X4_121 : pz_FL RX4 121 1 10 := ⟨RX1, TX1, 18, rfl, by decide, pi_X1, pz_in 293 (by decide +kernel) rfl⟩
theorem fl_X1_34 : pz_FL RX1 34 1 11 := ⟨RX1, TX1, 18, rfl, by decide, pi_X1, pz_in 294 (by decide +kernel) rfl⟩
theorem fp_X1_34 : pz_FP RX1 34 1 11 (.array .int) true := ⟨RX1, TX1, 18, tyX1, rfl, by decide, pi_X1, pz_in 294 (by decide +kernel) rfl, tyX1_ok, nmX1, rfl, by decide +kernel, fun _ => rfl⟩
theorem fl_X0_71 : pz_FL RX0 71 1 11 := ⟨RX1, TX1, 18, rfl, by decide, pi_X1, pz_in 295 (by decide +kernel) rfl⟩
theorem fl_X1_37 : pz_FL RX1 37 1 12 := ⟨RX1, TX1, 18, rfl, by decide, pi_X1, pz_in 296 (by decide +kernel) rfl⟩
theorem fp_X1_37 : pz_FP RX1 37 1 12 (.array .int) true := ⟨RX1, TX1, 18, tyX1, rfl, by decide, pi_X1, pz_in 296 (by decide +kernel) rfl, tyX1_ok, nmX1, rfl, by decide +kernel, fun _ => rfl⟩
theorem fl_X2_64 : pz_FL RX2 64 1 12 := ⟨RX1, TX1, 18, rfl, by decide, pi_X1, pz_in 297 (by decide +kernel) rfl⟩
theorem fl_X4_97 : pz_FL RX4 97 1 12 := ⟨RX1, TX1, 18, rfl, by decide, pi_X1, pz_in 298 (by decide +kernel) rfl⟩
theorem fl_X0_74 : pz_FL RX0 74 1 12 := ⟨RX1, TX1, 18, rfl, by decide, pi_X1, pz_in 299 (by decide +kernel) rfl⟩
theorem fl_X1_40 : pz_FL RX1 40 1 13 := ⟨RX1, TX1, 18, rfl, by decide, pi_X1, pz_in 300 (by decide +kernel) rfl⟩
theorem fp_X1_40 : pz_FP RX1 40 1 13 (.array .int) true := ⟨RX1, TX1, 18, tyX1, rfl, by decide, pi_X1, pz_in 300 (by decide +kernel) rfl, tyX1_ok, nmX1, rfl, by decide +kernel, fun _ => rfl⟩
theorem fl_X4_124 : pz_FL RX4 124 1 13 := ⟨RX1, TX1, 18, rfl, by decide, pi_X1, pz_in 301 (by decide +kernel) rfl⟩
theorem fl_X1_43 : pz_FL RX1 43 1 14 := ⟨RX1, TX1, 18, rfl, by decide, pi_X1, pz_in 302 (by decide +kernel) rfl⟩
theorem fp_X1_43 : pz_FP RX1 43 1 14 (.array .int) true := ⟨RX1, TX1, 18, tyX1, rfl, by decide, pi_X1, pz_in 302 (by decide +kernel) rfl, tyX1_ok, nmX1, rfl, by decide +kernel, fun _ => rfl⟩
theorem fl_X2_121 : pz_FL RX2 121 1 14 := ⟨RX1, TX1, 18, rfl, by decide, pi_X1, pz_in 303 (by decide +kernel) rfl⟩
theorem fl_X1_46 : pz_FL RX1 46 1 15 := ⟨RX1, TX1, 18, rfl, by decide, pi_X1, pz_in 304 (by decide +kernel) rfl⟩
theorem fp_X1_46 : pz_FP RX1 46 1 15 (.array .int) true := ⟨RX1, TX1, 18, tyX1, rfl, by decide, pi_X1, pz_in 304 (by decide +kernel) rfl, tyX1_ok, nmX1, rfl, by decide +kernel, fun _ => rfl⟩
theorem fl_X2_124 : pz_FL RX2 124 1 15 := ⟨RX1, TX1, 18, rfl, by decide, pi_X1, pz_in 305 (by decide +kernel) rfl⟩
theorem fl_X1_49 : pz_FL RX1 49 1 16 := ⟨RX1, TX1, 18, rfl, by decide, pi_X1, pz_in 306 (by decide +kernel) rfl⟩
theorem fp_X1_49 : pz_FP RX1 49 1 16 (.array .int) true := ⟨RX1, TX1, 18, tyX1, rfl, by decide, pi_X1, pz_in 306 (by decide +kernel) rfl, tyX1_ok, nmX1, rfl, by decide +kernel, fun _ => rfl⟩
theorem fl_X2_118 : pz_FL RX2 118 1 16 := ⟨RX1, TX1, 18, rfl, by decide, pi_X1, pz_in 307 (by decide +kernel) rfl⟩
theorem fl_X1_52 : pz_FL RX1 52 1 17 := ⟨RX1, TX1, 18, rfl, by decide, pi_X1, pz_in 308 (by decide +kernel) rfl⟩
theorem fp_X1_52 : pz_FP RX1 52 1 17 .int false := ⟨RX1, TX1, 18, tyX1, rfl, by decide, pi_X1, pz_in 308 (by decide +kernel) rfl, tyX1_ok, nmX1, rfl, by decide +kernel, fun h => by cases h⟩
theorem fl_X4_223 : pz_FL RX4 223 1 17 := ⟨RX1, TX1, 18, rfl, by decide, pi_X1, pz_in 309 (by decide +kernel) rfl⟩
theorem fp_X4_223 : pz_FP RX4 223 1 17 .int false := ⟨RX1, TX1, 18, tyX1, rfl, by decide, pi_X1, pz_in 309 (by decide +kernel) rfl, tyX1_ok, nmX1, rfl, by decide +kernel, fun h => by cases h⟩
theorem fl_X5_82 : pz_FL RX5 82 5 0 := ⟨RX5, TX5, 29, rfl, by decide, pi_X5, pz_in 666 (by decide +kernel) rfl⟩
theorem fp_X5_82 : pz_FP RX5 82 5 0 .int false := ⟨RX5, TX5, 29, tyX5, rfl, by decide, pi_X5, pz_in 666 (by decide +kernel) rfl, tyX5_ok, nmX5, rfl, by decide +kernel, fun h => by cases h⟩
theorem fl_X5_7 : pz_FL RX5 7 5 1 := ⟨RX5, TX5, 29, rfl, by decide, pi_X5, pz_in 667 (by decide +kernel) rfl⟩
theorem fp_X5_7 : pz_FP RX5 7 5 1 (.array .int) true := ⟨RX5, TX5, 29, tyX5, rfl, by decide, pi_X5, pz_in 667 (by decide +kernel) rfl, tyX5_ok, nmX5, rfl, by decide +kernel, fun _ => rfl⟩
theorem fl_X5_13 : pz_FL RX5 13 5 2 := ⟨RX5, TX5, 29, rfl, by decide, pi_X5, pz_in 668 (by decide +kernel) rfl⟩
theorem fp_X5_13 : pz_FP RX5 13 5 2 (.array .int) true := ⟨RX5, TX5, 29, tyX5, rfl, by decide, pi_X5, pz_in 668 (by decide +kernel) rfl, tyX5_ok, nmX5, rfl, by decide +kernel, fun _ => rfl⟩
theorem fl_X5_16 : pz_FL RX5 16 5 3 := ⟨RX5, TX5, 29, rfl, by decide, pi_X5, pz_in 669 (by decide +kernel) rfl⟩
theorem fp_X5_16 : pz_FP RX5 16 5 3 (.array .int) true := ⟨RX5, TX5, 29, tyX5, rfl, by decide, pi_X5, pz_in 669 (by decide +kernel) rfl, tyX5_ok, nmX5, rfl, by decide +kernel, fun _ => rfl⟩
theorem fl_X5_19 : pz_FL RX5 19 5 4 := ⟨RX5, TX5, 29, rfl, by decide, pi_X5, pz_in 670 (by decide +kernel) rfl⟩
theorem fp_X5_19 : pz_FP RX5 19 5 4 (.array .int) true := ⟨RX5, TX5, 29, tyX5, rfl, by decide, pi_X5, pz_in 670 (by decide +kernel) rfl, tyX5_ok, nmX5, rfl, by decide +kernel, fun _ => rfl⟩
theorem fl_X5_22 : pz_FL RX5 22 5 5 := ⟨RX5, TX5, 29, rfl, by decide, pi_X5, pz_in 671 (by decide +kernel) rfl⟩
theorem fp_X5_22 : pz_FP RX5 22 5 5 (.array .int) true := ⟨RX5, TX5, 29, tyX5, rfl, by decide, pi_X5, pz_in 671 (by decide +kernel) rfl, tyX5_ok, nmX5, rfl, by decide +kernel, fun _ => rfl⟩
theorem fl_X5_25 : pz_FL RX5 25 5 6 := ⟨RX5, TX5, 29, rfl, by decide, pi_X5, pz_in 672 (by decide +kernel) rfl⟩
theorem fp_X5_25 : pz_FP RX5 25 5 6 (.array .int) true := ⟨RX5, TX5, 29, tyX5, rfl, by decide, pi_X5, pz_in 672 (by decide +kernel) rfl, tyX5_ok, nmX5, rfl, by decide +kernel, fun _ => rfl⟩
theorem fl_X5_28 : pz_FL RX5 28 5 7 := ⟨RX5, TX5, 29, rfl, by decide, pi_X5, pz_in 673 (by decide +kernel) rfl⟩
theorem fp_X5_28 : pz_FP RX5 28 5 7 (.array .int) true := ⟨RX5, TX5, 29, tyX5, rfl, by decide, pi_X5, pz_in 673 (by decide +kernel) rfl, tyX5_ok, nmX5, rfl, by decide +kernel, fun _ => rfl⟩
theorem fl_X5_31 : pz_FL RX5 31 5 8 := ⟨RX5, TX5, 29, rfl, by decide, pi_X5, pz_in 674 (by decide +kernel) rfl⟩
theorem fp_X5_31 : pz_FP RX5 31 5 8 (.array .int) true := ⟨RX5, TX5, 29, tyX5, rfl, by decide, pi_X5, pz_in 674 (by decide +kernel) rfl, tyX5_ok, nmX5, rfl, by decide +kernel, fun _ => rfl⟩
theorem fl_X5_34 : pz_FL RX5 34 5 9 := ⟨RX5, TX5, 29, rfl, by decide, pi_X5, pz_in 675 (by decide +kernel) rfl⟩
theorem fp_X5_34 : pz_FP RX5 34 5 9 (.array .int) true := ⟨RX5, TX5, 29, tyX5, rfl, by decide, pi_X5, pz_in 675 (by decide +kernel) rfl, tyX5_ok, nmX5, rfl, by decide +kernel, fun _ => rfl⟩
theorem fl_X5_37 : pz_FL RX5 37 5 10 := ⟨RX5, TX5, 29, rfl, by decide, pi_X5, pz_in 676 (by decide +kernel) rfl⟩
theorem fp_X5_37 : pz_FP RX5 37 5 10 (.array .int) true := ⟨RX5, TX5, 29, tyX5, rfl, by decide, pi_X5, pz_in 676 (by decide +kernel) rfl, tyX5_ok, nmX5, rfl, by decide +kernel, fun _ => rfl⟩
theorem fl_X5_40 : pz_FL RX5 40 5 11 := ⟨RX5, TX5, 29, rfl, by decide, pi_X5, pz_in 677 (by decide +kernel) rfl⟩
theorem fp_X5_40 : pz_FP RX5 40 5 11 (.array .int) true := ⟨RX5, TX5, 29, tyX5, rfl, by decide, pi_X5, pz_in 677 (by decide +kernel) rfl, tyX5_ok, nmX5, rfl, by decide +kernel, fun _ => rfl⟩
theorem fl_X5_117 : pz_FL RX5 117 5 12 := ⟨RX5, TX5, 29, rfl, by decide, pi_X5, pz_in 678 (by decide +kernel) rfl⟩
theorem fp_X5_117 : pz_FP RX5 117 5 12 .int false := ⟨RX5, TX5, 29, tyX5, rfl, by decide, pi_X5, pz_in 678 (by decide +kernel) rfl, tyX5_ok, nmX5, rfl, by decide +kernel, fun h => by cases h⟩
theorem fl_X5_123 : pz_FL RX5 123 5 13 := ⟨RX5, TX5, 29, rfl, by decide, pi_X5, pz_in 679 (by decide +kernel) rfl⟩
theorem fp_X5_123 : pz_FP RX5 123 5 13 .boolean false := ⟨RX5, TX5, 29, tyX5, rfl, by decide, pi_X5, pz_in 679 (by decide +kernel) rfl, tyX5_ok, nmX5, rfl, by decide +kernel, fun h => by cases h⟩
theorem fl_X5_43 : pz_FL RX5 43 5 14 := ⟨RX5, TX5, 29, rfl, by decide, pi_X5, pz_in 680 (by decide +kernel) rfl⟩
theorem fp_X5_43 : pz_FP RX5 43 5 14 (.array .int) true := ⟨RX5, TX5, 29, tyX5, rfl, by decide, pi_X5, pz_in 680 (by decide +kernel) rfl, tyX5_ok, nmX5, rfl, by decide +kernel, fun _ => rfl⟩
theorem fl_X5_120 : pz_FL RX5 120 5 15 := ⟨RX5, TX5, 29, rfl, by decide, pi_X5, pz_in 681 (by decide +kernel) rfl⟩
theorem fp_X5_120 : pz_FP RX5 120 5 15 .int false := ⟨RX5, TX5, 29, tyX5, rfl, by decide, pi_X5, pz_in 681 (by decide +kernel) rfl, tyX5_ok, nmX5, rfl, by decide +kernel, fun h => by cases h⟩
theorem fl_X5_46 : pz_FL RX5 46 5 16 := ⟨RX5, TX5, 29, rfl, by decide, pi_X5, pz_in 682 (by decide +kernel) rfl⟩
theorem fp_X5_46 : pz_FP RX5 46 5 16 (.array .int) true := ⟨RX5, TX5, 29, tyX5, rfl, by decide, pi_X5, pz_in 682 (by decide +kernel) rfl, tyX5_ok, nmX5, rfl, by decide +kernel, fun _ => rfl⟩
theorem fl_X5_49 : pz_FL RX5 49 5 17 := ⟨RX5, TX5, 29, rfl, by decide, pi_X5, pz_in 683 (by decide +kernel) rfl⟩
theorem fp_X5_49 : pz_FP RX5 49 5 17 (.array .int) true := ⟨RX5, TX5, 29, tyX5, rfl, by decide, pi_X5, pz_in 683 (by decide +kernel) rfl, tyX5_ok, nmX5, rfl, by decide +kernel, fun _ => rfl⟩
theorem fl_X5_52 : pz_FL RX5 52 5 18 := ⟨RX5, TX5, 29, rfl, by decide, pi_X5, pz_in 684 (by decide +kernel) rfl⟩
theorem fp_X5_52 : pz_FP RX5 52 5 18 .int false := ⟨RX5, TX5, 29, tyX5, rfl, by decide, pi_X5, pz_in 684 (by decide +kernel) rfl, tyX5_ok, nmX5, rfl, by decide +kernel, fun h => by cases h⟩
theorem fl_X5_56 : pz_FL RX5 56 5 19 := ⟨RX5, TX5, 29, rfl, by decide, pi_X5, pz_in 685 (by decide +kernel) rfl⟩
theorem fp_X5_56 : pz_FP RX5 56 5 19 (.array .int) true := ⟨RX5, TX5, 29, tyX5, rfl, by decide, pi_X5, pz_in 685 (by decide +kernel) rfl, tyX5_ok, nmX5, rfl, by decide +kernel, fun _ => rfl⟩
theorem fl_X5_59 : pz_FL RX5 59 5 20 := ⟨RX5, TX5, 29, rfl, by decide, pi_X5, pz_in 686 (by decide +kernel) rfl⟩
theorem fp_X5_59 : pz_FP RX5 59 5 20 (.array .int) true := ⟨RX5, TX5, 29, tyX5, rfl, by decide, pi_X5, pz_in 686 (by decide +kernel) rfl, tyX5_ok, nmX5, rfl, by decide +kernel, fun _ => rfl⟩
theorem fl_X5_62 : pz_FL RX5 62 5 21 := ⟨RX5, TX5, 29, rfl, by decide, pi_X5, pz_in 687 (by decide +kernel) rfl⟩
theorem fp_X5_62 : pz_FP RX5 62 5 21 (.array .int) true := ⟨RX5, TX5, 29, tyX5, rfl, by decide, pi_X5, pz_in 687 (by decide +kernel) rfl, tyX5_ok, nmX5, rfl, by decide +kernel, fun _ => rfl⟩
theorem fl_X5_65 : pz_FL RX5 65 5 22 := ⟨RX5, TX5, 29, rfl, by decide, pi_X5, pz_in 688 (by decide +kernel) rfl⟩
theorem fp_X5_65 : pz_FP RX5 65 5 22 (.array .boolean) true := ⟨RX5, TX5, 29, tyX5, rfl, by decide, pi_X5, pz_in 688 (by decide +kernel) rfl, tyX5_ok, nmX5, rfl, by decide +kernel, fun _ => rfl⟩
theorem fl_X5_69 : pz_FL RX5 69 5 23 := ⟨RX5, TX5, 29, rfl, by decide, pi_X5, pz_in 689 (by decide +kernel) rfl⟩
theorem fp_X5_69 : pz_FP RX5 69 5 23 (.array .int) true := ⟨RX5, TX5, 29, tyX5, rfl, by decide, pi_X5, pz_in 689 (by decide +kernel) rfl, tyX5_ok, nmX5, rfl, by decide +kernel, fun _ => rfl⟩
theorem fl_X5_184 : pz_FL RX5 184 5 24 := ⟨RX5, TX5, 29, rfl, by decide, pi_X5, pz_in 690 (by decide +kernel) rfl⟩
theorem fp_X5_184 : pz_FP RX5 184 5 24 .int false := ⟨RX5, TX5, 29, tyX5, rfl, by decide, pi_X5, pz_in 690 (by decide +kernel) rfl, tyX5_ok, nmX5, rfl, by decide +kernel, fun h => by cases h⟩
theorem fl_X5_72 : pz_FL RX5 72 5 25 := ⟨RX5, TX5, 29, rfl, by decide, pi_X5, pz_in 691 (by decide +kernel) rfl⟩
theorem fp_X5_72 : pz_FP RX5 72 5 25 (.array .int) true := ⟨RX5, TX5, 29, tyX5, rfl, by decide, pi_X5, pz_in 691 (by decide +kernel) rfl, tyX5_ok, nmX5, rfl, by decide +kernel, fun _ => rfl⟩
theorem fl_X5_76 : pz_FL RX5 76 5 26 := ⟨RX5, TX5, 29, rfl, by decide, pi_X5, pz_in 692 (by decide +kernel) rfl⟩
theorem fp_X5_76 : pz_FP RX5 76 5 26 (.array .int) true := ⟨RX5, TX5, 29, tyX5, rfl, by decide, pi_X5, pz_in 692 (by decide +kernel) rfl, tyX5_ok, nmX5, rfl, by decide +kernel, fun _ => rfl⟩
theorem fl_X5_79 : pz_FL RX5 79 5 27 := ⟨RX5, TX5, 29, rfl, by decide, pi_X5, pz_in 693 (by decide +kernel) rfl⟩
theorem fp_X5_79 : pz_FP RX5 79 5 27 (.array .int) true := ⟨RX5, TX5, 29, tyX5, rfl, by decide, pi_X5, pz_in 693 (by decide +kernel) rfl, tyX5_ok, nmX5, rfl, by decide +kernel, fun _ => rfl⟩
theorem fl_X5_211 : pz_FL RX5 211 5 28 := ⟨RX5, TX5, 29, rfl, by decide, pi_X5, pz_in 694 (by decide +kernel) rfl⟩
theorem fp_X5_211 : pz_FP RX5 211 5 28 .int false := ⟨RX5, TX5, 29, tyX5, rfl, by decide, pi_X5, pz_in 694 (by decide +kernel) rfl, tyX5_ok, nmX5, rfl, by decide +kernel, fun h => by cases h⟩
abbrev M_X0_init : pz_M := (yX0_init, cX0_init, 1, none)
theorem mf_X0_init : pz_MF M_X0_init 0 := ⟨pz_in 121 (by decide +kernel) rfl, pz_in 59 (by decide +kernel) rfl, by decide +kernel, by decide⟩
theorem mi_X0_init : Cond.instanceMethod yX0_init ∈ pz_U := pz_in 120 (by decide +kernel) rfl
abbrev M_X0_put : pz_M := (yX0_put, cX0_put, 7, none)
theorem mf_X0_put : pz_MF M_X0_put 2 := ⟨pz_in 589 (by decide +kernel) rfl, pz_in 59 (by decide +kernel) rfl, by decide +kernel, by decide⟩
theorem mi_X0_put : Cond.instanceMethod yX0_put ∈ pz_U := pz_in 587 (by decide +kernel) rfl
theorem ms_X0_put : Cond.selects RX0 yX0_put yX0_put ∈ pz_U := pz_in 588 (by decide +kernel) rfl
abbrev M_X0_bands : pz_M := (yX0_bands, cX0_bands, 3, (some .int))
theorem mf_X0_bands : pz_MF M_X0_bands 2 := ⟨pz_in 593 (by decide +kernel) rfl, pz_in 59 (by decide +kernel) rfl, by decide +kernel, by decide⟩
theorem mi_X0_bands : Cond.instanceMethod yX0_bands ∈ pz_U := pz_in 591 (by decide +kernel) rfl
theorem ms_X0_bands : Cond.selects RX0 yX0_bands yX0_bands ∈ pz_U := pz_in 592 (by decide +kernel) rfl
abbrev M_X0_lineBehind : pz_M := (yX0_lineBehind, cX0_lineBehind, 4, (some .int))
theorem mf_X0_lineBehind : pz_MF M_X0_lineBehind 3 := ⟨pz_in 597 (by decide +kernel) rfl, pz_in 59 (by decide +kernel) rfl, by decide +kernel, by decide⟩
theorem mi_X0_lineBehind : Cond.instanceMethod yX0_lineBehind ∈ pz_U := pz_in 595 (by decide +kernel) rfl
theorem ms_X0_lineBehind : Cond.selects RX0 yX0_lineBehind yX0_lineBehind ∈ pz_U := pz_in 596 (by decide +kernel) rfl
abbrev M_X0_isFrontUp : pz_M := (yX0_isFrontUp, cX0_isFrontUp, 3, (some .boolean))
theorem mf_X0_isFrontUp : pz_MF M_X0_isFrontUp 2 := ⟨pz_in 630 (by decide +kernel) rfl, pz_in 59 (by decide +kernel) rfl, by decide +kernel, by decide⟩
theorem mi_X0_isFrontUp : Cond.instanceMethod yX0_isFrontUp ∈ pz_U := pz_in 628 (by decide +kernel) rfl
theorem ms_X0_isFrontUp : Cond.selects RX0 yX0_isFrontUp yX0_isFrontUp ∈ pz_U := pz_in 629 (by decide +kernel) rfl
abbrev M_X0_linesFoldedBy : pz_M := (yX0_linesFoldedBy, cX0_linesFoldedBy, 7, (some .int))
theorem mf_X0_linesFoldedBy : pz_MF M_X0_linesFoldedBy 2 := ⟨pz_in 613 (by decide +kernel) rfl, pz_in 59 (by decide +kernel) rfl, by decide +kernel, by decide⟩
theorem mi_X0_linesFoldedBy : Cond.instanceMethod yX0_linesFoldedBy ∈ pz_U := pz_in 611 (by decide +kernel) rfl
theorem ms_X0_linesFoldedBy : Cond.selects RX0 yX0_linesFoldedBy yX0_linesFoldedBy ∈ pz_U := pz_in 612 (by decide +kernel) rfl
abbrev M_X0_unfoldedAt : pz_M := (yX0_unfoldedAt, cX0_unfoldedAt, 7, (some .int))
theorem mf_X0_unfoldedAt : pz_MF M_X0_unfoldedAt 3 := ⟨pz_in 617 (by decide +kernel) rfl, pz_in 59 (by decide +kernel) rfl, by decide +kernel, by decide⟩
theorem mi_X0_unfoldedAt : Cond.instanceMethod yX0_unfoldedAt ∈ pz_U := pz_in 616 (by decide +kernel) rfl
theorem ms_X0_unfoldedAt : Cond.selects RX0 yX0_unfoldedAt yX0_unfoldedAt ∈ pz_U := pz_in 25 (by decide +kernel) rfl
abbrev M_X0_isWithinOne : pz_M := (yX0_isWithinOne, cX0_isWithinOne, 5, (some .boolean))
theorem mf_X0_isWithinOne : pz_MF M_X0_isWithinOne 3 := ⟨pz_in 621 (by decide +kernel) rfl, pz_in 59 (by decide +kernel) rfl, by decide +kernel, by decide⟩
theorem mi_X0_isWithinOne : Cond.instanceMethod yX0_isWithinOne ∈ pz_U := pz_in 620 (by decide +kernel) rfl
theorem ms_X0_isWithinOne : Cond.selects RX0 yX0_isWithinOne yX0_isWithinOne ∈ pz_U := pz_in 26 (by decide +kernel) rfl
abbrev M_X0_marksAllow : pz_M := (yX0_marksAllow, cX0_marksAllow, 6, (some .boolean))
theorem mf_X0_marksAllow : pz_MF M_X0_marksAllow 3 := ⟨pz_in 626 (by decide +kernel) rfl, pz_in 59 (by decide +kernel) rfl, by decide +kernel, by decide⟩
theorem mi_X0_marksAllow : Cond.instanceMethod yX0_marksAllow ∈ pz_U := pz_in 625 (by decide +kernel) rfl
theorem ms_X0_marksAllow : Cond.selects RX0 yX0_marksAllow yX0_marksAllow ∈ pz_U := pz_in 27 (by decide +kernel) rfl
abbrev M_X1_init : pz_M := (yX1_init, cX1_init, 7, none)
theorem mf_X1_init : pz_MF M_X1_init 3 := ⟨pz_in 213 (by decide +kernel) rfl, pz_in 62 (by decide +kernel) rfl, by decide +kernel, by decide⟩
theorem mi_X1_init : Cond.instanceMethod yX1_init ∈ pz_U := pz_in 212 (by decide +kernel) rfl
abbrev M_X1_joinFaces : pz_M := (yX1_joinFaces, cX1_joinFaces, 2, none)
theorem mf_X1_joinFaces : pz_MF M_X1_joinFaces 0 := ⟨pz_in 221 (by decide +kernel) rfl, pz_in 62 (by decide +kernel) rfl, by decide +kernel, by decide⟩
theorem mi_X1_joinFaces : Cond.instanceMethod yX1_joinFaces ∈ pz_U := pz_in 220 (by decide +kernel) rfl
theorem ms_X1_joinFaces : Cond.selects RX1 yX1_joinFaces yX1_joinFaces ∈ pz_U := pz_in 1 (by decide +kernel) rfl
abbrev M_X1_join : pz_M := (yX1_join, cX1_join, 4, none)
theorem mf_X1_join : pz_MF M_X1_join 3 := ⟨pz_in 225 (by decide +kernel) rfl, pz_in 62 (by decide +kernel) rfl, by decide +kernel, by decide⟩
theorem mi_X1_join : Cond.instanceMethod yX1_join ∈ pz_U := pz_in 224 (by decide +kernel) rfl
theorem ms_X1_join : Cond.selects RX1 yX1_join yX1_join ∈ pz_U := pz_in 2 (by decide +kernel) rfl
abbrev M_X1_measure : pz_M := (yX1_measure, cX1_measure, 2, none)
theorem mf_X1_measure : pz_MF M_X1_measure 0 := ⟨pz_in 229 (by decide +kernel) rfl, pz_in 62 (by decide +kernel) rfl, by decide +kernel, by decide⟩
theorem mi_X1_measure : Cond.instanceMethod yX1_measure ∈ pz_U := pz_in 227 (by decide +kernel) rfl
theorem ms_X1_measure : Cond.selects RX1 yX1_measure yX1_measure ∈ pz_U := pz_in 228 (by decide +kernel) rfl
abbrev M_X1_sideOf : pz_M := (yX1_sideOf, cX1_sideOf, 4, (some .int))
theorem mf_X1_sideOf : pz_MF M_X1_sideOf 1 := ⟨pz_in 237 (by decide +kernel) rfl, pz_in 62 (by decide +kernel) rfl, by decide +kernel, by decide⟩
theorem mi_X1_sideOf : Cond.instanceMethod yX1_sideOf ∈ pz_U := pz_in 236 (by decide +kernel) rfl
theorem ms_X1_sideOf : Cond.selects RX1 yX1_sideOf yX1_sideOf ∈ pz_U := pz_in 3 (by decide +kernel) rfl
abbrev M_X1_facesOver : pz_M := (yX1_facesOver, cX1_facesOver, 5, (some .int))
theorem mf_X1_facesOver : pz_MF M_X1_facesOver 1 := ⟨pz_in 241 (by decide +kernel) rfl, pz_in 62 (by decide +kernel) rfl, by decide +kernel, by decide⟩
theorem mi_X1_facesOver : Cond.instanceMethod yX1_facesOver ∈ pz_U := pz_in 240 (by decide +kernel) rfl
theorem ms_X1_facesOver : Cond.selects RX1 yX1_facesOver yX1_facesOver ∈ pz_U := pz_in 4 (by decide +kernel) rfl
abbrev M_X1_rivalsOf : pz_M := (yX1_rivalsOf, cX1_rivalsOf, 4, (some .int))
theorem mf_X1_rivalsOf : pz_MF M_X1_rivalsOf 1 := ⟨pz_in 254 (by decide +kernel) rfl, pz_in 62 (by decide +kernel) rfl, by decide +kernel, by decide⟩
theorem mi_X1_rivalsOf : Cond.instanceMethod yX1_rivalsOf ∈ pz_U := pz_in 253 (by decide +kernel) rfl
theorem ms_X1_rivalsOf : Cond.selects RX1 yX1_rivalsOf yX1_rivalsOf ∈ pz_U := pz_in 5 (by decide +kernel) rfl
abbrev M_X1_onOneSide : pz_M := (yX1_onOneSide, cX1_onOneSide, 3, (some .boolean))
theorem mf_X1_onOneSide : pz_MF M_X1_onOneSide 2 := ⟨pz_in 258 (by decide +kernel) rfl, pz_in 62 (by decide +kernel) rfl, by decide +kernel, by decide⟩
theorem mi_X1_onOneSide : Cond.instanceMethod yX1_onOneSide ∈ pz_U := pz_in 257 (by decide +kernel) rfl
theorem ms_X1_onOneSide : Cond.selects RX1 yX1_onOneSide yX1_onOneSide ∈ pz_U := pz_in 6 (by decide +kernel) rfl
abbrev M_X1_haveFourFaces : pz_M := (yX1_haveFourFaces, cX1_haveFourFaces, 4, (some .boolean))
theorem mf_X1_haveFourFaces : pz_MF M_X1_haveFourFaces 2 := ⟨pz_in 262 (by decide +kernel) rfl, pz_in 62 (by decide +kernel) rfl, by decide +kernel, by decide⟩
theorem mi_X1_haveFourFaces : Cond.instanceMethod yX1_haveFourFaces ∈ pz_U := pz_in 261 (by decide +kernel) rfl
theorem ms_X1_haveFourFaces : Cond.selects RX1 yX1_haveFourFaces yX1_haveFourFaces ∈ pz_U := pz_in 7 (by decide +kernel) rfl
abbrev M_X1_hasFace : pz_M := (yX1_hasFace, cX1_hasFace, 2, (some .boolean))
theorem mf_X1_hasFace : pz_MF M_X1_hasFace 1 := ⟨pz_in 366 (by decide +kernel) rfl, pz_in 62 (by decide +kernel) rfl, by decide +kernel, by decide⟩
theorem mi_X1_hasFace : Cond.instanceMethod yX1_hasFace ∈ pz_U := pz_in 364 (by decide +kernel) rfl
theorem ms_X1_hasFace : Cond.selects RX1 yX1_hasFace yX1_hasFace ∈ pz_U := pz_in 365 (by decide +kernel) rfl
abbrev M_X1_hasCrease : pz_M := (yX1_hasCrease, cX1_hasCrease, 2, (some .boolean))
theorem mf_X1_hasCrease : pz_MF M_X1_hasCrease 1 := ⟨pz_in 375 (by decide +kernel) rfl, pz_in 62 (by decide +kernel) rfl, by decide +kernel, by decide⟩
theorem mi_X1_hasCrease : Cond.instanceMethod yX1_hasCrease ∈ pz_U := pz_in 373 (by decide +kernel) rfl
theorem ms_X1_hasCrease : Cond.selects RX1 yX1_hasCrease yX1_hasCrease ∈ pz_U := pz_in 374 (by decide +kernel) rfl
abbrev M_X1_isFrontUp : pz_M := (yX1_isFrontUp, cX1_isFrontUp, 2, (some .boolean))
theorem mf_X1_isFrontUp : pz_MF M_X1_isFrontUp 1 := ⟨pz_in 233 (by decide +kernel) rfl, pz_in 62 (by decide +kernel) rfl, by decide +kernel, by decide⟩
theorem mi_X1_isFrontUp : Cond.instanceMethod yX1_isFrontUp ∈ pz_U := pz_in 231 (by decide +kernel) rfl
theorem ms_X1_isFrontUp : Cond.selects RX1 yX1_isFrontUp yX1_isFrontUp ∈ pz_U := pz_in 232 (by decide +kernel) rfl
abbrev M_X1_isUneven : pz_M := (yX1_isUneven, cX1_isUneven, 1, (some .boolean))
theorem mf_X1_isUneven : pz_MF M_X1_isUneven 0 := ⟨pz_in 428 (by decide +kernel) rfl, pz_in 62 (by decide +kernel) rfl, by decide +kernel, by decide⟩
theorem mi_X1_isUneven : Cond.instanceMethod yX1_isUneven ∈ pz_U := pz_in 426 (by decide +kernel) rfl
theorem ms_X1_isUneven : Cond.selects RX1 yX1_isUneven yX1_isUneven ∈ pz_U := pz_in 427 (by decide +kernel) rfl
abbrev M_X1_marked : pz_M := (yX1_marked, cX1_marked, 4, (some .int))
theorem mf_X1_marked : pz_MF M_X1_marked 1 := ⟨pz_in 383 (by decide +kernel) rfl, pz_in 62 (by decide +kernel) rfl, by decide +kernel, by decide⟩
theorem mi_X1_marked : Cond.instanceMethod yX1_marked ∈ pz_U := pz_in 381 (by decide +kernel) rfl
theorem ms_X1_marked : Cond.selects RX1 yX1_marked yX1_marked ∈ pz_U := pz_in 382 (by decide +kernel) rfl
abbrev M_X1_becomes : pz_M := (yX1_becomes, cX1_becomes, 4, (some .int))
theorem mf_X1_becomes : pz_MF M_X1_becomes 2 := ⟨pz_in 472 (by decide +kernel) rfl, pz_in 62 (by decide +kernel) rfl, by decide +kernel, by decide⟩
theorem mi_X1_becomes : Cond.instanceMethod yX1_becomes ∈ pz_U := pz_in 470 (by decide +kernel) rfl
theorem ms_X1_becomes : Cond.selects RX1 yX1_becomes yX1_becomes ∈ pz_U := pz_in 471 (by decide +kernel) rfl
abbrev M_X1_valleysIn : pz_M := (yX1_valleysIn, cX1_valleysIn, 4, (some .int))
theorem mf_X1_valleysIn : pz_MF M_X1_valleysIn 1 := ⟨pz_in 555 (by decide +kernel) rfl, pz_in 62 (by decide +kernel) rfl, by decide +kernel, by decide⟩
theorem mi_X1_valleysIn : Cond.instanceMethod yX1_valleysIn ∈ pz_U := pz_in 553 (by decide +kernel) rfl
theorem ms_X1_valleysIn : Cond.selects RX1 yX1_valleysIn yX1_valleysIn ∈ pz_U := pz_in 554 (by decide +kernel) rfl
abbrev M_X1_brokenMark : pz_M := (yX1_brokenMark, cX1_brokenMark, 3, (some .int))
theorem mf_X1_brokenMark : pz_MF M_X1_brokenMark 1 := ⟨pz_in 504 (by decide +kernel) rfl, pz_in 62 (by decide +kernel) rfl, by decide +kernel, by decide⟩
theorem mi_X1_brokenMark : Cond.instanceMethod yX1_brokenMark ∈ pz_U := pz_in 502 (by decide +kernel) rfl
theorem ms_X1_brokenMark : Cond.selects RX1 yX1_brokenMark yX1_brokenMark ∈ pz_U := pz_in 503 (by decide +kernel) rfl
abbrev M_X1_brokenThrough : pz_M := (yX1_brokenThrough, cX1_brokenThrough, 4, (some .int))
theorem mf_X1_brokenThrough : pz_MF M_X1_brokenThrough 1 := ⟨pz_in 509 (by decide +kernel) rfl, pz_in 62 (by decide +kernel) rfl, by decide +kernel, by decide⟩
theorem mi_X1_brokenThrough : Cond.instanceMethod yX1_brokenThrough ∈ pz_U := pz_in 507 (by decide +kernel) rfl
theorem ms_X1_brokenThrough : Cond.selects RX1 yX1_brokenThrough yX1_brokenThrough ∈ pz_U := pz_in 508 (by decide +kernel) rfl
abbrev M_X1_brokenAcross : pz_M := (yX1_brokenAcross, cX1_brokenAcross, 4, (some .int))
theorem mf_X1_brokenAcross : pz_MF M_X1_brokenAcross 1 := ⟨pz_in 518 (by decide +kernel) rfl, pz_in 62 (by decide +kernel) rfl, by decide +kernel, by decide⟩
theorem mi_X1_brokenAcross : Cond.instanceMethod yX1_brokenAcross ∈ pz_U := pz_in 516 (by decide +kernel) rfl
theorem ms_X1_brokenAcross : Cond.selects RX1 yX1_brokenAcross yX1_brokenAcross ∈ pz_U := pz_in 517 (by decide +kernel) rfl
abbrev M_X1_liesWithin : pz_M := (yX1_liesWithin, cX1_liesWithin, 4, (some .boolean))
theorem mf_X1_liesWithin : pz_MF M_X1_liesWithin 3 := ⟨pz_in 514 (by decide +kernel) rfl, pz_in 62 (by decide +kernel) rfl, by decide +kernel, by decide⟩
theorem mi_X1_liesWithin : Cond.instanceMethod yX1_liesWithin ∈ pz_U := pz_in 513 (by decide +kernel) rfl
theorem ms_X1_liesWithin : Cond.selects RX1 yX1_liesWithin yX1_liesWithin ∈ pz_U := pz_in 17 (by decide +kernel) rfl
abbrev M_X1_isBetween : pz_M := (yX1_isBetween, cX1_isBetween, 3, (some .boolean))
theorem mf_X1_isBetween : pz_MF M_X1_isBetween 3 := ⟨pz_in 244 (by decide +kernel) rfl, pz_in 62 (by decide +kernel) rfl, by decide +kernel, by decide⟩
theorem mt_X1_isBetween : Cond.static yX1_isBetween ∈ pz_U := pz_in 243 (by decide +kernel) rfl
abbrev M_X1_allLines : pz_M := (yX1_allLines, cX1_allLines, 1, (some .int))
theorem mf_X1_allLines : pz_MF M_X1_allLines 0 := ⟨pz_in 584 (by decide +kernel) rfl, pz_in 62 (by decide +kernel) rfl, by decide +kernel, by decide⟩
theorem mi_X1_allLines : Cond.instanceMethod yX1_allLines ∈ pz_U := pz_in 582 (by decide +kernel) rfl
theorem ms_X1_allLines : Cond.selects RX1 yX1_allLines yX1_allLines ∈ pz_U := pz_in 583 (by decide +kernel) rfl
abbrev M_X1_creasesOn : pz_M := (yX1_creasesOn, cX1_creasesOn, 4, (some .int))
theorem mf_X1_creasesOn : pz_MF M_X1_creasesOn 1 := ⟨pz_in 649 (by decide +kernel) rfl, pz_in 62 (by decide +kernel) rfl, by decide +kernel, by decide⟩
theorem mi_X1_creasesOn : Cond.instanceMethod yX1_creasesOn ∈ pz_U := pz_in 647 (by decide +kernel) rfl
theorem ms_X1_creasesOn : Cond.selects RX1 yX1_creasesOn yX1_creasesOn ∈ pz_U := pz_in 648 (by decide +kernel) rfl
abbrev M_X2_init : pz_M := (yX2_init, cX2_init, 1, none)
theorem mf_X2_init : pz_MF M_X2_init 0 := ⟨pz_in 81 (by decide +kernel) rfl, pz_in 58 (by decide +kernel) rfl, by decide +kernel, by decide⟩
theorem mi_X2_init : Cond.instanceMethod yX2_init ∈ pz_U := pz_in 80 (by decide +kernel) rfl
abbrev M_X2_begin : pz_M := (yX2_begin, cX2_begin, 2, none)
theorem mf_X2_begin : pz_MF M_X2_begin 1 := ⟨pz_in 401 (by decide +kernel) rfl, pz_in 58 (by decide +kernel) rfl, by decide +kernel, by decide⟩
theorem mi_X2_begin : Cond.instanceMethod yX2_begin ∈ pz_U := pz_in 399 (by decide +kernel) rfl
theorem ms_X2_begin : Cond.selects RX2 yX2_begin yX2_begin ∈ pz_U := pz_in 400 (by decide +kernel) rfl
abbrev M_X2_beginWith : pz_M := (yX2_beginWith, cX2_beginWith, 4, none)
theorem mf_X2_beginWith : pz_MF M_X2_beginWith 2 := ⟨pz_in 405 (by decide +kernel) rfl, pz_in 58 (by decide +kernel) rfl, by decide +kernel, by decide⟩
theorem mi_X2_beginWith : Cond.instanceMethod yX2_beginWith ∈ pz_U := pz_in 403 (by decide +kernel) rfl
theorem ms_X2_beginWith : Cond.selects RX2 yX2_beginWith yX2_beginWith ∈ pz_U := pz_in 404 (by decide +kernel) rfl
abbrev M_X2_demandTurn : pz_M := (yX2_demandTurn, cX2_demandTurn, 6, none)
theorem mf_X2_demandTurn : pz_MF M_X2_demandTurn 2 := ⟨pz_in 413 (by decide +kernel) rfl, pz_in 58 (by decide +kernel) rfl, by decide +kernel, by decide⟩
theorem mi_X2_demandTurn : Cond.instanceMethod yX2_demandTurn ∈ pz_U := pz_in 411 (by decide +kernel) rfl
theorem ms_X2_demandTurn : Cond.selects RX2 yX2_demandTurn yX2_demandTurn ∈ pz_U := pz_in 412 (by decide +kernel) rfl
abbrev M_X2_demandBelow : pz_M := (yX2_demandBelow, cX2_demandBelow, 3, none)
theorem mf_X2_demandBelow : pz_MF M_X2_demandBelow 2 := ⟨pz_in 419 (by decide +kernel) rfl, pz_in 58 (by decide +kernel) rfl, by decide +kernel, by decide⟩
theorem mi_X2_demandBelow : Cond.instanceMethod yX2_demandBelow ∈ pz_U := pz_in 417 (by decide +kernel) rfl
theorem ms_X2_demandBelow : Cond.selects RX2 yX2_demandBelow yX2_demandBelow ∈ pz_U := pz_in 418 (by decide +kernel) rfl
abbrev M_X2_next : pz_M := (yX2_next, cX2_next, 3, (some .boolean))
theorem mf_X2_next : pz_MF M_X2_next 0 := ⟨pz_in 424 (by decide +kernel) rfl, pz_in 58 (by decide +kernel) rfl, by decide +kernel, by decide⟩
theorem mi_X2_next : Cond.instanceMethod yX2_next ∈ pz_U := pz_in 422 (by decide +kernel) rfl
theorem ms_X2_next : Cond.selects RX2 yX2_next yX2_next ∈ pz_U := pz_in 423 (by decide +kernel) rfl
abbrev M_X2_asNumber : pz_M := (yX2_asNumber, cX2_asNumber, 4, (some .long))
theorem mf_X2_asNumber : pz_MF M_X2_asNumber 0 := ⟨pz_in 487 (by decide +kernel) rfl, pz_in 58 (by decide +kernel) rfl, by decide +kernel, by decide⟩
theorem mi_X2_asNumber : Cond.instanceMethod yX2_asNumber ∈ pz_U := pz_in 485 (by decide +kernel) rfl
theorem ms_X2_asNumber : Cond.selects RX2 yX2_asNumber yX2_asNumber ∈ pz_U := pz_in 486 (by decide +kernel) rfl
abbrev M_X2_demandsClash : pz_M := (yX2_demandsClash, cX2_demandsClash, 4, (some .boolean))
theorem mf_X2_demandsClash : pz_MF M_X2_demandsClash 1 := ⟨pz_in 432 (by decide +kernel) rfl, pz_in 58 (by decide +kernel) rfl, by decide +kernel, by decide⟩
theorem mi_X2_demandsClash : Cond.instanceMethod yX2_demandsClash ∈ pz_U := pz_in 431 (by decide +kernel) rfl
theorem ms_X2_demandsClash : Cond.selects RX2 yX2_demandsClash yX2_demandsClash ∈ pz_U := pz_in 9 (by decide +kernel) rfl
abbrev M_X2_leastUntried : pz_M := (yX2_leastUntried, cX2_leastUntried, 2, (some .int))
theorem mf_X2_leastUntried : pz_MF M_X2_leastUntried 0 := ⟨pz_in 449 (by decide +kernel) rfl, pz_in 58 (by decide +kernel) rfl, by decide +kernel, by decide⟩
theorem mi_X2_leastUntried : Cond.instanceMethod yX2_leastUntried ∈ pz_U := pz_in 448 (by decide +kernel) rfl
theorem ms_X2_leastUntried : Cond.selects RX2 yX2_leastUntried yX2_leastUntried ∈ pz_U := pz_in 13 (by decide +kernel) rfl
abbrev M_X2_put : pz_M := (yX2_put, cX2_put, 3, none)
theorem mf_X2_put : pz_MF M_X2_put 2 := ⟨pz_in 453 (by decide +kernel) rfl, pz_in 58 (by decide +kernel) rfl, by decide +kernel, by decide⟩
theorem mi_X2_put : Cond.instanceMethod yX2_put ∈ pz_U := pz_in 452 (by decide +kernel) rfl
theorem ms_X2_put : Cond.selects RX2 yX2_put yX2_put ∈ pz_U := pz_in 14 (by decide +kernel) rfl
abbrev M_X2_takeOff : pz_M := (yX2_takeOff, cX2_takeOff, 1, none)
theorem mf_X2_takeOff : pz_MF M_X2_takeOff 0 := ⟨pz_in 457 (by decide +kernel) rfl, pz_in 58 (by decide +kernel) rfl, by decide +kernel, by decide⟩
theorem mi_X2_takeOff : Cond.instanceMethod yX2_takeOff ∈ pz_U := pz_in 456 (by decide +kernel) rfl
theorem ms_X2_takeOff : Cond.selects RX2 yX2_takeOff yX2_takeOff ∈ pz_U := pz_in 15 (by decide +kernel) rfl
abbrev M_X2_candidates : pz_M := (yX2_candidates, cX2_candidates, 5, (some .int))
theorem mf_X2_candidates : pz_MF M_X2_candidates 1 := ⟨pz_in 436 (by decide +kernel) rfl, pz_in 58 (by decide +kernel) rfl, by decide +kernel, by decide⟩
theorem mi_X2_candidates : Cond.instanceMethod yX2_candidates ∈ pz_U := pz_in 435 (by decide +kernel) rfl
theorem ms_X2_candidates : Cond.selects RX2 yX2_candidates yX2_candidates ∈ pz_U := pz_in 10 (by decide +kernel) rfl
abbrev M_X2_readyAmong : pz_M := (yX2_readyAmong, cX2_readyAmong, 5, (some .int))
theorem mf_X2_readyAmong : pz_MF M_X2_readyAmong 2 := ⟨pz_in 444 (by decide +kernel) rfl, pz_in 58 (by decide +kernel) rfl, by decide +kernel, by decide⟩
theorem mi_X2_readyAmong : Cond.instanceMethod yX2_readyAmong ∈ pz_U := pz_in 443 (by decide +kernel) rfl
theorem ms_X2_readyAmong : Cond.selects RX2 yX2_readyAmong yX2_readyAmong ∈ pz_U := pz_in 12 (by decide +kernel) rfl
abbrev M_X2_barredFromClosing : pz_M := (yX2_barredFromClosing, cX2_barredFromClosing, 7, (some .int))
theorem mf_X2_barredFromClosing : pz_MF M_X2_barredFromClosing 2 := ⟨pz_in 440 (by decide +kernel) rfl, pz_in 58 (by decide +kernel) rfl, by decide +kernel, by decide⟩
theorem mi_X2_barredFromClosing : Cond.instanceMethod yX2_barredFromClosing ∈ pz_U := pz_in 439 (by decide +kernel) rfl
theorem ms_X2_barredFromClosing : Cond.selects RX2 yX2_barredFromClosing yX2_barredFromClosing ∈ pz_U := pz_in 11 (by decide +kernel) rfl
abbrev M_X3_init : pz_M := (yX3_init, cX3_init, 1, none)
theorem mf_X3_init : pz_MF M_X3_init 0 := ⟨pz_in 143 (by decide +kernel) rfl, pz_in 60 (by decide +kernel) rfl, by decide +kernel, by decide⟩
theorem mi_X3_init : Cond.instanceMethod yX3_init ∈ pz_U := pz_in 142 (by decide +kernel) rfl
abbrev M_X3_explore : pz_M := (yX3_explore, cX3_explore, 5, none)
theorem mf_X3_explore : pz_MF M_X3_explore 2 := ⟨pz_in 580 (by decide +kernel) rfl, pz_in 60 (by decide +kernel) rfl, by decide +kernel, by decide⟩
theorem mi_X3_explore : Cond.instanceMethod yX3_explore ∈ pz_U := pz_in 578 (by decide +kernel) rfl
theorem ms_X3_explore : Cond.selects RX3 yX3_explore yX3_explore ∈ pz_U := pz_in 579 (by decide +kernel) rfl
abbrev M_X3_tryLines : pz_M := (yX3_tryLines, cX3_tryLines, 7, none)
theorem mf_X3_tryLines : pz_MF M_X3_tryLines 4 := ⟨pz_in 602 (by decide +kernel) rfl, pz_in 60 (by decide +kernel) rfl, by decide +kernel, by decide⟩
theorem mi_X3_tryLines : Cond.instanceMethod yX3_tryLines ∈ pz_U := pz_in 601 (by decide +kernel) rfl
theorem ms_X3_tryLines : Cond.selects RX3 yX3_tryLines yX3_tryLines ∈ pz_U := pz_in 23 (by decide +kernel) rfl
abbrev M_X3_tryStep : pz_M := (yX3_tryStep, cX3_tryStep, 8, none)
theorem mf_X3_tryStep : pz_MF M_X3_tryStep 4 := ⟨pz_in 609 (by decide +kernel) rfl, pz_in 60 (by decide +kernel) rfl, by decide +kernel, by decide⟩
theorem mi_X3_tryStep : Cond.instanceMethod yX3_tryStep ∈ pz_U := pz_in 608 (by decide +kernel) rfl
theorem ms_X3_tryStep : Cond.selects RX3 yX3_tryStep yX3_tryStep ∈ pz_U := pz_in 24 (by decide +kernel) rfl
abbrev M_X3_trace : pz_M := (yX3_trace, cX3_trace, 5, (some .int))
theorem mf_X3_trace : pz_MF M_X3_trace 2 := ⟨pz_in 635 (by decide +kernel) rfl, pz_in 60 (by decide +kernel) rfl, by decide +kernel, by decide⟩
theorem mi_X3_trace : Cond.instanceMethod yX3_trace ∈ pz_U := pz_in 633 (by decide +kernel) rfl
theorem ms_X3_trace : Cond.selects RX3 yX3_trace yX3_trace ∈ pz_U := pz_in 634 (by decide +kernel) rfl
abbrev M_X4_init : pz_M := (yX4_init, cX4_init, 1, none)
theorem mf_X4_init : pz_MF M_X4_init 0 := ⟨pz_in 71 (by decide +kernel) rfl, pz_in 57 (by decide +kernel) rfl, by decide +kernel, by decide⟩
theorem mi_X4_init : Cond.instanceMethod yX4_init ∈ pz_U := pz_in 70 (by decide +kernel) rfl
abbrev M_X4_strip : pz_M := (yX4_strip, cX4_strip, 2, (some .int))
theorem mf_X4_strip : pz_MF M_X4_strip 1 := ⟨pz_in 205 (by decide +kernel) rfl, pz_in 57 (by decide +kernel) rfl, by decide +kernel, by decide⟩
theorem mi_X4_strip : Cond.instanceMethod yX4_strip ∈ pz_U := pz_in 203 (by decide +kernel) rfl
theorem ms_X4_strip : Cond.selects RX4 yX4_strip yX4_strip ∈ pz_U := pz_in 204 (by decide +kernel) rfl
abbrev M_X4_corner : pz_M := (yX4_corner, cX4_corner, 2, (some .int))
theorem mf_X4_corner : pz_MF M_X4_corner 1 := ⟨pz_in 350 (by decide +kernel) rfl, pz_in 57 (by decide +kernel) rfl, by decide +kernel, by decide⟩
theorem mi_X4_corner : Cond.instanceMethod yX4_corner ∈ pz_U := pz_in 348 (by decide +kernel) rfl
theorem ms_X4_corner : Cond.selects RX4 yX4_corner yX4_corner ∈ pz_U := pz_in 349 (by decide +kernel) rfl
abbrev M_X4_map : pz_M := (yX4_map, cX4_map, 3, (some .int))
theorem mf_X4_map : pz_MF M_X4_map 2 := ⟨pz_in 354 (by decide +kernel) rfl, pz_in 57 (by decide +kernel) rfl, by decide +kernel, by decide⟩
theorem mi_X4_map : Cond.instanceMethod yX4_map ∈ pz_U := pz_in 352 (by decide +kernel) rfl
theorem ms_X4_map : Cond.selects RX4 yX4_map yX4_map ∈ pz_U := pz_in 353 (by decide +kernel) rfl
abbrev M_X4_length : pz_M := (yX4_length, cX4_length, 6, (some .int))
theorem mf_X4_length : pz_MF M_X4_length 3 := ⟨pz_in 358 (by decide +kernel) rfl, pz_in 57 (by decide +kernel) rfl, by decide +kernel, by decide⟩
theorem mi_X4_length : Cond.instanceMethod yX4_length ∈ pz_U := pz_in 356 (by decide +kernel) rfl
theorem ms_X4_length : Cond.selects RX4 yX4_length yX4_length ∈ pz_U := pz_in 357 (by decide +kernel) rfl
abbrev M_X4_mark : pz_M := (yX4_mark, cX4_mark, 6, (some .int))
theorem mf_X4_mark : pz_MF M_X4_mark 3 := ⟨pz_in 371 (by decide +kernel) rfl, pz_in 57 (by decide +kernel) rfl, by decide +kernel, by decide⟩
theorem mi_X4_mark : Cond.instanceMethod yX4_mark ∈ pz_U := pz_in 369 (by decide +kernel) rfl
theorem ms_X4_mark : Cond.selects RX4 yX4_mark yX4_mark ∈ pz_U := pz_in 370 (by decide +kernel) rfl
abbrev M_X4_about : pz_M := (yX4_about, cX4_about, 4, (some .int))
theorem mf_X4_about : pz_MF M_X4_about 2 := ⟨pz_in 379 (by decide +kernel) rfl, pz_in 57 (by decide +kernel) rfl, by decide +kernel, by decide⟩
theorem mi_X4_about : Cond.instanceMethod yX4_about ∈ pz_U := pz_in 377 (by decide +kernel) rfl
theorem ms_X4_about : Cond.selects RX4 yX4_about yX4_about ∈ pz_U := pz_in 378 (by decide +kernel) rfl
abbrev M_X4_crease : pz_M := (yX4_crease, cX4_crease, 5, (some .int))
theorem mf_X4_crease : pz_MF M_X4_crease 3 := ⟨pz_in 393 (by decide +kernel) rfl, pz_in 57 (by decide +kernel) rfl, by decide +kernel, by decide⟩
theorem mi_X4_crease : Cond.instanceMethod yX4_crease ∈ pz_U := pz_in 391 (by decide +kernel) rfl
theorem ms_X4_crease : Cond.selects RX4 yX4_crease yX4_crease ∈ pz_U := pz_in 392 (by decide +kernel) rfl
abbrev M_X4_judge : pz_M := (yX4_judge, cX4_judge, 3, (some .int))
theorem mf_X4_judge : pz_MF M_X4_judge 1 := ⟨pz_in 397 (by decide +kernel) rfl, pz_in 57 (by decide +kernel) rfl, by decide +kernel, by decide⟩
theorem mi_X4_judge : Cond.instanceMethod yX4_judge ∈ pz_U := pz_in 395 (by decide +kernel) rfl
theorem ms_X4_judge : Cond.selects RX4 yX4_judge yX4_judge ∈ pz_U := pz_in 396 (by decide +kernel) rfl
abbrev M_X4_layer : pz_M := (yX4_layer, cX4_layer, 2, (some .int))
theorem mf_X4_layer : pz_MF M_X4_layer 1 := ⟨pz_in 464 (by decide +kernel) rfl, pz_in 57 (by decide +kernel) rfl, by decide +kernel, by decide⟩
theorem mi_X4_layer : Cond.instanceMethod yX4_layer ∈ pz_U := pz_in 462 (by decide +kernel) rfl
theorem ms_X4_layer : Cond.selects RX4 yX4_layer yX4_layer ∈ pz_U := pz_in 463 (by decide +kernel) rfl
abbrev M_X4_turned : pz_M := (yX4_turned, cX4_turned, 2, (some .int))
theorem mf_X4_turned : pz_MF M_X4_turned 1 := ⟨pz_in 468 (by decide +kernel) rfl, pz_in 57 (by decide +kernel) rfl, by decide +kernel, by decide⟩
theorem mi_X4_turned : Cond.instanceMethod yX4_turned ∈ pz_U := pz_in 466 (by decide +kernel) rfl
theorem ms_X4_turned : Cond.selects RX4 yX4_turned yX4_turned ∈ pz_U := pz_in 467 (by decide +kernel) rfl
abbrev M_X4_orders : pz_M := (yX4_orders, cX4_orders, 4, (some .int))
theorem mf_X4_orders : pz_MF M_X4_orders 1 := ⟨pz_in 476 (by decide +kernel) rfl, pz_in 57 (by decide +kernel) rfl, by decide +kernel, by decide⟩
theorem mi_X4_orders : Cond.instanceMethod yX4_orders ∈ pz_U := pz_in 474 (by decide +kernel) rfl
theorem ms_X4_orders : Cond.selects RX4 yX4_orders yX4_orders ∈ pz_U := pz_in 475 (by decide +kernel) rfl
abbrev M_X4_order : pz_M := (yX4_order, cX4_order, 5, (some .long))
theorem mf_X4_order : pz_MF M_X4_order 2 := ⟨pz_in 481 (by decide +kernel) rfl, pz_in 57 (by decide +kernel) rfl, by decide +kernel, by decide⟩
theorem mi_X4_order : Cond.instanceMethod yX4_order ∈ pz_U := pz_in 479 (by decide +kernel) rfl
theorem ms_X4_order : Cond.selects RX4 yX4_order yX4_order ∈ pz_U := pz_in 480 (by decide +kernel) rfl
abbrev M_X4_check : pz_M := (yX4_check, cX4_check, 6, (some .int))
theorem mf_X4_check : pz_MF M_X4_check 2 := ⟨pz_in 492 (by decide +kernel) rfl, pz_in 57 (by decide +kernel) rfl, by decide +kernel, by decide⟩
theorem mi_X4_check : Cond.instanceMethod yX4_check ∈ pz_U := pz_in 490 (by decide +kernel) rfl
theorem ms_X4_check : Cond.selects RX4 yX4_check yX4_check ∈ pz_U := pz_in 491 (by decide +kernel) rfl
abbrev M_X4_forced : pz_M := (yX4_forced, cX4_forced, 4, (some .int))
theorem mf_X4_forced : pz_MF M_X4_forced 2 := ⟨pz_in 522 (by decide +kernel) rfl, pz_in 57 (by decide +kernel) rfl, by decide +kernel, by decide⟩
theorem mi_X4_forced : Cond.instanceMethod yX4_forced ∈ pz_U := pz_in 520 (by decide +kernel) rfl
theorem ms_X4_forced : Cond.selects RX4 yX4_forced yX4_forced ∈ pz_U := pz_in 521 (by decide +kernel) rfl
abbrev M_X4_above : pz_M := (yX4_above, cX4_above, 7, (some .int))
theorem mf_X4_above : pz_MF M_X4_above 3 := ⟨pz_in 531 (by decide +kernel) rfl, pz_in 57 (by decide +kernel) rfl, by decide +kernel, by decide⟩
theorem mi_X4_above : Cond.instanceMethod yX4_above ∈ pz_U := pz_in 529 (by decide +kernel) rfl
theorem ms_X4_above : Cond.selects RX4 yX4_above yX4_above ∈ pz_U := pz_in 530 (by decide +kernel) rfl
abbrev M_X4_alike : pz_M := (yX4_alike, cX4_alike, 5, (some .int))
theorem mf_X4_alike : pz_MF M_X4_alike 2 := ⟨pz_in 540 (by decide +kernel) rfl, pz_in 57 (by decide +kernel) rfl, by decide +kernel, by decide⟩
theorem mi_X4_alike : Cond.instanceMethod yX4_alike ∈ pz_U := pz_in 538 (by decide +kernel) rfl
theorem ms_X4_alike : Cond.selects RX4 yX4_alike yX4_alike ∈ pz_U := pz_in 539 (by decide +kernel) rfl
abbrev M_X4_foldings : pz_M := (yX4_foldings, cX4_foldings, 5, (some .int))
theorem mf_X4_foldings : pz_MF M_X4_foldings 1 := ⟨pz_in 548 (by decide +kernel) rfl, pz_in 57 (by decide +kernel) rfl, by decide +kernel, by decide⟩
theorem mi_X4_foldings : Cond.instanceMethod yX4_foldings ∈ pz_U := pz_in 546 (by decide +kernel) rfl
theorem ms_X4_foldings : Cond.selects RX4 yX4_foldings yX4_foldings ∈ pz_U := pz_in 547 (by decide +kernel) rfl
abbrev M_X4_clash : pz_M := (yX4_clash, cX4_clash, 6, (some .int))
theorem mf_X4_clash : pz_MF M_X4_clash 1 := ⟨pz_in 563 (by decide +kernel) rfl, pz_in 57 (by decide +kernel) rfl, by decide +kernel, by decide⟩
theorem mi_X4_clash : Cond.instanceMethod yX4_clash ∈ pz_U := pz_in 561 (by decide +kernel) rfl
theorem ms_X4_clash : Cond.selects RX4 yX4_clash yX4_clash ∈ pz_U := pz_in 562 (by decide +kernel) rfl
abbrev M_X4_inClash : pz_M := (yX4_inClash, cX4_inClash, 2, (some .int))
theorem mf_X4_inClash : pz_MF M_X4_inClash 1 := ⟨pz_in 572 (by decide +kernel) rfl, pz_in 57 (by decide +kernel) rfl, by decide +kernel, by decide⟩
theorem mi_X4_inClash : Cond.instanceMethod yX4_inClash ∈ pz_U := pz_in 570 (by decide +kernel) rfl
theorem ms_X4_inClash : Cond.selects RX4 yX4_inClash yX4_inClash ∈ pz_U := pz_in 571 (by decide +kernel) rfl
abbrev M_X4_simple : pz_M := (yX4_simple, cX4_simple, 3, (some .int))
theorem mf_X4_simple : pz_MF M_X4_simple 1 := ⟨pz_in 576 (by decide +kernel) rfl, pz_in 57 (by decide +kernel) rfl, by decide +kernel, by decide⟩
theorem mi_X4_simple : Cond.instanceMethod yX4_simple ∈ pz_U := pz_in 574 (by decide +kernel) rfl
theorem ms_X4_simple : Cond.selects RX4 yX4_simple yX4_simple ∈ pz_U := pz_in 575 (by decide +kernel) rfl
abbrev M_X4_step : pz_M := (yX4_step, cX4_step, 2, (some .int))
theorem mf_X4_step : pz_MF M_X4_step 1 := ⟨pz_in 639 (by decide +kernel) rfl, pz_in 57 (by decide +kernel) rfl, by decide +kernel, by decide⟩
theorem mi_X4_step : Cond.instanceMethod yX4_step ∈ pz_U := pz_in 637 (by decide +kernel) rfl
theorem ms_X4_step : Cond.selects RX4 yX4_step yX4_step ∈ pz_U := pz_in 638 (by decide +kernel) rfl
abbrev M_X4_fold : pz_M := (yX4_fold, cX4_fold, 5, (some .int))
theorem mf_X4_fold : pz_MF M_X4_fold 2 := ⟨pz_in 643 (by decide +kernel) rfl, pz_in 57 (by decide +kernel) rfl, by decide +kernel, by decide⟩
theorem mi_X4_fold : Cond.instanceMethod yX4_fold ∈ pz_U := pz_in 641 (by decide +kernel) rfl
theorem ms_X4_fold : Cond.selects RX4 yX4_fold yX4_fold ∈ pz_U := pz_in 642 (by decide +kernel) rfl
abbrev M_X4_flatten : pz_M := (yX4_flatten, cX4_flatten, 4, (some .int))
theorem mf_X4_flatten : pz_MF M_X4_flatten 1 := ⟨pz_in 653 (by decide +kernel) rfl, pz_in 57 (by decide +kernel) rfl, by decide +kernel, by decide⟩
theorem mi_X4_flatten : Cond.instanceMethod yX4_flatten ∈ pz_U := pz_in 651 (by decide +kernel) rfl
theorem ms_X4_flatten : Cond.selects RX4 yX4_flatten yX4_flatten ∈ pz_U := pz_in 652 (by decide +kernel) rfl
abbrev M_X4_lies : pz_M := (yX4_lies, cX4_lies, 5, (some .int))
theorem mf_X4_lies : pz_MF M_X4_lies 3 := ⟨pz_in 657 (by decide +kernel) rfl, pz_in 57 (by decide +kernel) rfl, by decide +kernel, by decide⟩
theorem mi_X4_lies : Cond.instanceMethod yX4_lies ∈ pz_U := pz_in 655 (by decide +kernel) rfl
theorem ms_X4_lies : Cond.selects RX4 yX4_lies yX4_lies ∈ pz_U := pz_in 656 (by decide +kernel) rfl
abbrev M_X4_addPaper : pz_M := (yX4_addPaper, cX4_addPaper, 4, (some .int))
theorem mf_X4_addPaper : pz_MF M_X4_addPaper 3 := ⟨pz_in 209 (by decide +kernel) rfl, pz_in 57 (by decide +kernel) rfl, by decide +kernel, by decide⟩
theorem mi_X4_addPaper : Cond.instanceMethod yX4_addPaper ∈ pz_U := pz_in 208 (by decide +kernel) rfl
theorem ms_X4_addPaper : Cond.selects RX4 yX4_addPaper yX4_addPaper ∈ pz_U := pz_in 0 (by decide +kernel) rfl
abbrev M_X4_find : pz_M := (yX4_find, cX4_find, 2, (some (.object "CreaseFlat$Paper")))
theorem mf_X4_find : pz_MF M_X4_find 1 := ⟨pz_in 362 (by decide +kernel) rfl, pz_in 57 (by decide +kernel) rfl, by decide +kernel, by decide⟩
theorem mi_X4_find : Cond.instanceMethod yX4_find ∈ pz_U := pz_in 361 (by decide +kernel) rfl
theorem ms_X4_find : Cond.selects RX4 yX4_find yX4_find ∈ pz_U := pz_in 8 (by decide +kernel) rfl
abbrev M_X4_has : pz_M := (yX4_has, cX4_has, 2, (some .boolean))
theorem mf_X4_has : pz_MF M_X4_has 2 := ⟨pz_in 409 (by decide +kernel) rfl, pz_in 57 (by decide +kernel) rfl, by decide +kernel, by decide⟩
theorem mt_X4_has : Cond.static yX4_has ∈ pz_U := pz_in 408 (by decide +kernel) rfl
abbrev M_X4_readOrder : pz_M := (yX4_readOrder, cX4_readOrder, 9, (some .boolean))
theorem mf_X4_readOrder : pz_MF M_X4_readOrder 2 := ⟨pz_in 496 (by decide +kernel) rfl, pz_in 57 (by decide +kernel) rfl, by decide +kernel, by decide⟩
theorem mi_X4_readOrder : Cond.instanceMethod yX4_readOrder ∈ pz_U := pz_in 495 (by decide +kernel) rfl
theorem ms_X4_readOrder : Cond.selects RX4 yX4_readOrder yX4_readOrder ∈ pz_U := pz_in 16 (by decide +kernel) rfl
abbrev M_X4_canBecome : pz_M := (yX4_canBecome, cX4_canBecome, 4, (some .boolean))
theorem mf_X4_canBecome : pz_MF M_X4_canBecome 3 := ⟨pz_in 526 (by decide +kernel) rfl, pz_in 57 (by decide +kernel) rfl, by decide +kernel, by decide⟩
theorem mi_X4_canBecome : Cond.instanceMethod yX4_canBecome ∈ pz_U := pz_in 525 (by decide +kernel) rfl
theorem ms_X4_canBecome : Cond.selects RX4 yX4_canBecome yX4_canBecome ∈ pz_U := pz_in 18 (by decide +kernel) rfl
abbrev M_X4_canLieBelow : pz_M := (yX4_canLieBelow, cX4_canLieBelow, 4, (some .boolean))
theorem mf_X4_canLieBelow : pz_MF M_X4_canLieBelow 3 := ⟨pz_in 535 (by decide +kernel) rfl, pz_in 57 (by decide +kernel) rfl, by decide +kernel, by decide⟩
theorem mi_X4_canLieBelow : Cond.instanceMethod yX4_canLieBelow ∈ pz_U := pz_in 534 (by decide +kernel) rfl
theorem ms_X4_canLieBelow : Cond.selects RX4 yX4_canLieBelow yX4_canLieBelow ∈ pz_U := pz_in 19 (by decide +kernel) rfl
abbrev M_X4_allowsSome : pz_M := (yX4_allowsSome, cX4_allowsSome, 3, (some .boolean))
theorem mf_X4_allowsSome : pz_MF M_X4_allowsSome 2 := ⟨pz_in 567 (by decide +kernel) rfl, pz_in 57 (by decide +kernel) rfl, by decide +kernel, by decide⟩
theorem mi_X4_allowsSome : Cond.instanceMethod yX4_allowsSome ∈ pz_U := pz_in 566 (by decide +kernel) rfl
theorem ms_X4_allowsSome : Cond.selects RX4 yX4_allowsSome yX4_allowsSome ∈ pz_U := pz_in 22 (by decide +kernel) rfl
abbrev M_X4_allowTheSame : pz_M := (yX4_allowTheSame, cX4_allowTheSame, 5, (some .boolean))
theorem mf_X4_allowTheSame : pz_MF M_X4_allowTheSame 2 := ⟨pz_in 544 (by decide +kernel) rfl, pz_in 57 (by decide +kernel) rfl, by decide +kernel, by decide⟩
theorem mi_X4_allowTheSame : Cond.instanceMethod yX4_allowTheSame ∈ pz_U := pz_in 543 (by decide +kernel) rfl
theorem ms_X4_allowTheSame : Cond.selects RX4 yX4_allowTheSame yX4_allowTheSame ∈ pz_U := pz_in 20 (by decide +kernel) rfl
abbrev M_X4_isNew : pz_M := (yX4_isNew, cX4_isNew, 5, (some .boolean))
theorem mf_X4_isNew : pz_MF M_X4_isNew 1 := ⟨pz_in 559 (by decide +kernel) rfl, pz_in 57 (by decide +kernel) rfl, by decide +kernel, by decide⟩
theorem mi_X4_isNew : Cond.instanceMethod yX4_isNew ∈ pz_U := pz_in 558 (by decide +kernel) rfl
theorem ms_X4_isNew : Cond.selects RX4 yX4_isNew yX4_isNew ∈ pz_U := pz_in 21 (by decide +kernel) rfl
abbrev M_X5_init : pz_M := (yX5_init, cX5_init, 1, none)
theorem mf_X5_init : pz_MF M_X5_init 0 := ⟨pz_in 663 (by decide +kernel) rfl, pz_in 61 (by decide +kernel) rfl, by decide +kernel, by decide⟩
theorem mi_X5_init : Cond.instanceMethod yX5_init ∈ pz_U := pz_in 662 (by decide +kernel) rfl
abbrev M_X5_lesser : pz_M := (yX5_lesser, cX5_lesser, 2, (some .int))
theorem mf_X5_lesser : pz_MF M_X5_lesser 2 := ⟨pz_in 849 (by decide +kernel) rfl, pz_in 61 (by decide +kernel) rfl, by decide +kernel, by decide⟩
theorem mt_X5_lesser : Cond.static yX5_lesser ∈ pz_U := pz_in 848 (by decide +kernel) rfl
abbrev M_X5_greater : pz_M := (yX5_greater, cX5_greater, 2, (some .int))
theorem mf_X5_greater : pz_MF M_X5_greater 2 := ⟨pz_in 852 (by decide +kernel) rfl, pz_in 61 (by decide +kernel) rfl, by decide +kernel, by decide⟩
theorem mt_X5_greater : Cond.static yX5_greater ∈ pz_U := pz_in 851 (by decide +kernel) rfl
abbrev M_X5_bits : pz_M := (yX5_bits, cX5_bits, 3, (some .int))
theorem mf_X5_bits : pz_MF M_X5_bits 1 := ⟨pz_in 972 (by decide +kernel) rfl, pz_in 61 (by decide +kernel) rfl, by decide +kernel, by decide⟩
theorem mt_X5_bits : Cond.static yX5_bits ∈ pz_U := pz_in 971 (by decide +kernel) rfl
abbrev M_X5_has : pz_M := (yX5_has, cX5_has, 2, (some .boolean))
theorem mf_X5_has : pz_MF M_X5_has 1 := ⟨pz_in 786 (by decide +kernel) rfl, pz_in 61 (by decide +kernel) rfl, by decide +kernel, by decide⟩
theorem mi_X5_has : Cond.instanceMethod yX5_has ∈ pz_U := pz_in 785 (by decide +kernel) rfl
theorem ms_X5_has : Cond.selects RX5 yX5_has yX5_has ∈ pz_U := pz_in 31 (by decide +kernel) rfl
abbrev M_X5_hasFace : pz_M := (yX5_hasFace, cX5_hasFace, 3, (some .boolean))
theorem mf_X5_hasFace : pz_MF M_X5_hasFace 2 := ⟨pz_in 782 (by decide +kernel) rfl, pz_in 61 (by decide +kernel) rfl, by decide +kernel, by decide⟩
theorem mi_X5_hasFace : Cond.instanceMethod yX5_hasFace ∈ pz_U := pz_in 781 (by decide +kernel) rfl
theorem ms_X5_hasFace : Cond.selects RX5 yX5_hasFace yX5_hasFace ∈ pz_U := pz_in 30 (by decide +kernel) rfl
abbrev M_X5_hasCrease : pz_M := (yX5_hasCrease, cX5_hasCrease, 3, (some .boolean))
theorem mf_X5_hasCrease : pz_MF M_X5_hasCrease 2 := ⟨pz_in 794 (by decide +kernel) rfl, pz_in 61 (by decide +kernel) rfl, by decide +kernel, by decide⟩
theorem mi_X5_hasCrease : Cond.instanceMethod yX5_hasCrease ∈ pz_U := pz_in 793 (by decide +kernel) rfl
theorem ms_X5_hasCrease : Cond.selects RX5 yX5_hasCrease yX5_hasCrease ∈ pz_U := pz_in 32 (by decide +kernel) rfl
abbrev M_X5_add : pz_M := (yX5_add, cX5_add, 5, (some .int))
theorem mf_X5_add : pz_MF M_X5_add 2 := ⟨pz_in 762 (by decide +kernel) rfl, pz_in 61 (by decide +kernel) rfl, by decide +kernel, by decide⟩
theorem mi_X5_add : Cond.instanceMethod yX5_add ∈ pz_U := pz_in 761 (by decide +kernel) rfl
theorem ms_X5_add : Cond.selects RX5 yX5_add yX5_add ∈ pz_U := pz_in 28 (by decide +kernel) rfl
abbrev M_X5_addCrease : pz_M := (yX5_addCrease, cX5_addCrease, 5, none)
theorem mf_X5_addCrease : pz_MF M_X5_addCrease 3 := ⟨pz_in 766 (by decide +kernel) rfl, pz_in 61 (by decide +kernel) rfl, by decide +kernel, by decide⟩
theorem mi_X5_addCrease : Cond.instanceMethod yX5_addCrease ∈ pz_U := pz_in 765 (by decide +kernel) rfl
theorem ms_X5_addCrease : Cond.selects RX5 yX5_addCrease yX5_addCrease ∈ pz_U := pz_in 29 (by decide +kernel) rfl
abbrev M_X5_strip : pz_M := (yX5_strip, cX5_strip, 4, (some .int))
theorem mf_X5_strip : pz_MF M_X5_strip 1 := ⟨pz_in 758 (by decide +kernel) rfl, pz_in 61 (by decide +kernel) rfl, by decide +kernel, by decide⟩
theorem mi_X5_strip : Cond.instanceMethod yX5_strip ∈ pz_U := pz_in 756 (by decide +kernel) rfl
theorem ms_X5_strip : Cond.selects RX5 yX5_strip yX5_strip ∈ pz_U := pz_in 757 (by decide +kernel) rfl
abbrev M_X5_corner : pz_M := (yX5_corner, cX5_corner, 4, (some .int))
theorem mf_X5_corner : pz_MF M_X5_corner 1 := ⟨pz_in 770 (by decide +kernel) rfl, pz_in 61 (by decide +kernel) rfl, by decide +kernel, by decide⟩
theorem mi_X5_corner : Cond.instanceMethod yX5_corner ∈ pz_U := pz_in 768 (by decide +kernel) rfl
theorem ms_X5_corner : Cond.selects RX5 yX5_corner yX5_corner ∈ pz_U := pz_in 769 (by decide +kernel) rfl
abbrev M_X5_map : pz_M := (yX5_map, cX5_map, 6, (some .int))
theorem mf_X5_map : pz_MF M_X5_map 2 := ⟨pz_in 774 (by decide +kernel) rfl, pz_in 61 (by decide +kernel) rfl, by decide +kernel, by decide⟩
theorem mi_X5_map : Cond.instanceMethod yX5_map ∈ pz_U := pz_in 772 (by decide +kernel) rfl
theorem ms_X5_map : Cond.selects RX5 yX5_map yX5_map ∈ pz_U := pz_in 773 (by decide +kernel) rfl
abbrev M_X5_length : pz_M := (yX5_length, cX5_length, 5, (some .int))
theorem mf_X5_length : pz_MF M_X5_length 3 := ⟨pz_in 778 (by decide +kernel) rfl, pz_in 61 (by decide +kernel) rfl, by decide +kernel, by decide⟩
theorem mi_X5_length : Cond.instanceMethod yX5_length ∈ pz_U := pz_in 776 (by decide +kernel) rfl
theorem ms_X5_length : Cond.selects RX5 yX5_length yX5_length ∈ pz_U := pz_in 777 (by decide +kernel) rfl
abbrev M_X5_mark : pz_M := (yX5_mark, cX5_mark, 5, (some .int))
theorem mf_X5_mark : pz_MF M_X5_mark 3 := ⟨pz_in 790 (by decide +kernel) rfl, pz_in 61 (by decide +kernel) rfl, by decide +kernel, by decide⟩
theorem mi_X5_mark : Cond.instanceMethod yX5_mark ∈ pz_U := pz_in 788 (by decide +kernel) rfl
theorem ms_X5_mark : Cond.selects RX5 yX5_mark yX5_mark ∈ pz_U := pz_in 789 (by decide +kernel) rfl
abbrev M_X5_uneven : pz_M := (yX5_uneven, cX5_uneven, 4, (some .int))
theorem mf_X5_uneven : pz_MF M_X5_uneven 1 := ⟨pz_in 806 (by decide +kernel) rfl, pz_in 61 (by decide +kernel) rfl, by decide +kernel, by decide⟩
theorem mi_X5_uneven : Cond.instanceMethod yX5_uneven ∈ pz_U := pz_in 805 (by decide +kernel) rfl
theorem ms_X5_uneven : Cond.selects RX5 yX5_uneven yX5_uneven ∈ pz_U := pz_in 34 (by decide +kernel) rfl
abbrev M_X5_marked : pz_M := (yX5_marked, cX5_marked, 5, (some .int))
theorem mf_X5_marked : pz_MF M_X5_marked 2 := ⟨pz_in 802 (by decide +kernel) rfl, pz_in 61 (by decide +kernel) rfl, by decide +kernel, by decide⟩
theorem mi_X5_marked : Cond.instanceMethod yX5_marked ∈ pz_U := pz_in 801 (by decide +kernel) rfl
theorem ms_X5_marked : Cond.selects RX5 yX5_marked yX5_marked ∈ pz_U := pz_in 33 (by decide +kernel) rfl
abbrev M_X5_about : pz_M := (yX5_about, cX5_about, 3, (some .int))
theorem mf_X5_about : pz_MF M_X5_about 2 := ⟨pz_in 798 (by decide +kernel) rfl, pz_in 61 (by decide +kernel) rfl, by decide +kernel, by decide⟩
theorem mi_X5_about : Cond.instanceMethod yX5_about ∈ pz_U := pz_in 796 (by decide +kernel) rfl
theorem ms_X5_about : Cond.selects RX5 yX5_about yX5_about ∈ pz_U := pz_in 797 (by decide +kernel) rfl
abbrev M_X5_begins : pz_M := (yX5_begins, cX5_begins, 5, (some .int))
theorem mf_X5_begins : pz_MF M_X5_begins 2 := ⟨pz_in 818 (by decide +kernel) rfl, pz_in 61 (by decide +kernel) rfl, by decide +kernel, by decide⟩
theorem mi_X5_begins : Cond.instanceMethod yX5_begins ∈ pz_U := pz_in 817 (by decide +kernel) rfl
theorem ms_X5_begins : Cond.selects RX5 yX5_begins yX5_begins ∈ pz_U := pz_in 36 (by decide +kernel) rfl
abbrev M_X5_placeOf : pz_M := (yX5_placeOf, cX5_placeOf, 6, (some .int))
theorem mf_X5_placeOf : pz_MF M_X5_placeOf 2 := ⟨pz_in 814 (by decide +kernel) rfl, pz_in 61 (by decide +kernel) rfl, by decide +kernel, by decide⟩
theorem mi_X5_placeOf : Cond.instanceMethod yX5_placeOf ∈ pz_U := pz_in 813 (by decide +kernel) rfl
theorem ms_X5_placeOf : Cond.selects RX5 yX5_placeOf yX5_placeOf ∈ pz_U := pz_in 35 (by decide +kernel) rfl
abbrev M_X5_crease : pz_M := (yX5_crease, cX5_crease, 5, (some .int))
theorem mf_X5_crease : pz_MF M_X5_crease 3 := ⟨pz_in 810 (by decide +kernel) rfl, pz_in 61 (by decide +kernel) rfl, by decide +kernel, by decide⟩
theorem mi_X5_crease : Cond.instanceMethod yX5_crease ∈ pz_U := pz_in 808 (by decide +kernel) rfl
theorem ms_X5_crease : Cond.selects RX5 yX5_crease yX5_crease ∈ pz_U := pz_in 809 (by decide +kernel) rfl
abbrev M_X5_isUp : pz_M := (yX5_isUp, cX5_isUp, 3, (some .boolean))
theorem mf_X5_isUp : pz_MF M_X5_isUp 2 := ⟨pz_in 846 (by decide +kernel) rfl, pz_in 61 (by decide +kernel) rfl, by decide +kernel, by decide⟩
theorem mi_X5_isUp : Cond.instanceMethod yX5_isUp ∈ pz_U := pz_in 845 (by decide +kernel) rfl
theorem ms_X5_isUp : Cond.selects RX5 yX5_isUp yX5_isUp ∈ pz_U := pz_in 42 (by decide +kernel) rfl
abbrev M_X5_begin : pz_M := (yX5_begin, cX5_begin, 3, none)
theorem mf_X5_begin : pz_MF M_X5_begin 1 := ⟨pz_in 826 (by decide +kernel) rfl, pz_in 61 (by decide +kernel) rfl, by decide +kernel, by decide⟩
theorem mi_X5_begin : Cond.instanceMethod yX5_begin ∈ pz_U := pz_in 825 (by decide +kernel) rfl
theorem ms_X5_begin : Cond.selects RX5 yX5_begin yX5_begin ∈ pz_U := pz_in 37 (by decide +kernel) rfl
abbrev M_X5_isWithin : pz_M := (yX5_isWithin, cX5_isWithin, 5, (some .boolean))
theorem mf_X5_isWithin : pz_MF M_X5_isWithin 2 := ⟨pz_in 864 (by decide +kernel) rfl, pz_in 61 (by decide +kernel) rfl, by decide +kernel, by decide⟩
theorem mi_X5_isWithin : Cond.instanceMethod yX5_isWithin ∈ pz_U := pz_in 863 (by decide +kernel) rfl
theorem ms_X5_isWithin : Cond.selects RX5 yX5_isWithin yX5_isWithin ∈ pz_U := pz_in 45 (by decide +kernel) rfl
abbrev M_X5_isOneSide : pz_M := (yX5_isOneSide, cX5_isOneSide, 3, (some .boolean))
theorem mf_X5_isOneSide : pz_MF M_X5_isOneSide 2 := ⟨pz_in 856 (by decide +kernel) rfl, pz_in 61 (by decide +kernel) rfl, by decide +kernel, by decide⟩
theorem mi_X5_isOneSide : Cond.instanceMethod yX5_isOneSide ∈ pz_U := pz_in 855 (by decide +kernel) rfl
theorem ms_X5_isOneSide : Cond.selects RX5 yX5_isOneSide yX5_isOneSide ∈ pz_U := pz_in 43 (by decide +kernel) rfl
abbrev M_X5_isFour : pz_M := (yX5_isFour, cX5_isFour, 7, (some .boolean))
theorem mf_X5_isFour : pz_MF M_X5_isFour 2 := ⟨pz_in 860 (by decide +kernel) rfl, pz_in 61 (by decide +kernel) rfl, by decide +kernel, by decide⟩
theorem mi_X5_isFour : Cond.instanceMethod yX5_isFour ∈ pz_U := pz_in 859 (by decide +kernel) rfl
theorem ms_X5_isFour : Cond.selects RX5 yX5_isFour yX5_isFour ∈ pz_U := pz_in 44 (by decide +kernel) rfl
abbrev M_X5_markIn : pz_M := (yX5_markIn, cX5_markIn, 4, (some .int))
theorem mf_X5_markIn : pz_MF M_X5_markIn 1 := ⟨pz_in 842 (by decide +kernel) rfl, pz_in 61 (by decide +kernel) rfl, by decide +kernel, by decide⟩
theorem mi_X5_markIn : Cond.instanceMethod yX5_markIn ∈ pz_U := pz_in 841 (by decide +kernel) rfl
theorem ms_X5_markIn : Cond.selects RX5 yX5_markIn yX5_markIn ∈ pz_U := pz_in 41 (by decide +kernel) rfl
abbrev M_X5_isFine : pz_M := (yX5_isFine, cX5_isFine, 7, (some .boolean))
theorem mf_X5_isFine : pz_MF M_X5_isFine 1 := ⟨pz_in 834 (by decide +kernel) rfl, pz_in 61 (by decide +kernel) rfl, by decide +kernel, by decide⟩
theorem mi_X5_isFine : Cond.instanceMethod yX5_isFine ∈ pz_U := pz_in 833 (by decide +kernel) rfl
theorem ms_X5_isFine : Cond.selects RX5 yX5_isFine yX5_isFine ∈ pz_U := pz_in 39 (by decide +kernel) rfl
abbrev M_X5_isClosed : pz_M := (yX5_isClosed, cX5_isClosed, 12, (some .boolean))
theorem mf_X5_isClosed : pz_MF M_X5_isClosed 3 := ⟨pz_in 838 (by decide +kernel) rfl, pz_in 61 (by decide +kernel) rfl, by decide +kernel, by decide⟩
theorem mi_X5_isClosed : Cond.instanceMethod yX5_isClosed ∈ pz_U := pz_in 837 (by decide +kernel) rfl
theorem ms_X5_isClosed : Cond.selects RX5 yX5_isClosed yX5_isClosed ∈ pz_U := pz_in 40 (by decide +kernel) rfl
abbrev M_X5_next : pz_M := (yX5_next, cX5_next, 5, (some .boolean))
theorem mf_X5_next : pz_MF M_X5_next 0 := ⟨pz_in 830 (by decide +kernel) rfl, pz_in 61 (by decide +kernel) rfl, by decide +kernel, by decide⟩
theorem mi_X5_next : Cond.instanceMethod yX5_next ∈ pz_U := pz_in 829 (by decide +kernel) rfl
theorem ms_X5_next : Cond.selects RX5 yX5_next yX5_next ∈ pz_U := pz_in 38 (by decide +kernel) rfl
abbrev M_X5_number : pz_M := (yX5_number, cX5_number, 4, (some .long))
theorem mf_X5_number : pz_MF M_X5_number 0 := ⟨pz_in 885 (by decide +kernel) rfl, pz_in 61 (by decide +kernel) rfl, by decide +kernel, by decide⟩
theorem mi_X5_number : Cond.instanceMethod yX5_number ∈ pz_U := pz_in 884 (by decide +kernel) rfl
theorem ms_X5_number : Cond.selects RX5 yX5_number yX5_number ∈ pz_U := pz_in 46 (by decide +kernel) rfl
abbrev M_X5_judge : pz_M := (yX5_judge, cX5_judge, 3, (some .int))
theorem mf_X5_judge : pz_MF M_X5_judge 1 := ⟨pz_in 822 (by decide +kernel) rfl, pz_in 61 (by decide +kernel) rfl, by decide +kernel, by decide⟩
theorem mi_X5_judge : Cond.instanceMethod yX5_judge ∈ pz_U := pz_in 820 (by decide +kernel) rfl
theorem ms_X5_judge : Cond.selects RX5 yX5_judge yX5_judge ∈ pz_U := pz_in 821 (by decide +kernel) rfl
abbrev M_X5_layer : pz_M := (yX5_layer, cX5_layer, 2, (some .int))
theorem mf_X5_layer : pz_MF M_X5_layer 1 := ⟨pz_in 868 (by decide +kernel) rfl, pz_in 61 (by decide +kernel) rfl, by decide +kernel, by decide⟩
theorem mi_X5_layer : Cond.instanceMethod yX5_layer ∈ pz_U := pz_in 866 (by decide +kernel) rfl
theorem ms_X5_layer : Cond.selects RX5 yX5_layer yX5_layer ∈ pz_U := pz_in 867 (by decide +kernel) rfl
abbrev M_X5_turned : pz_M := (yX5_turned, cX5_turned, 3, (some .int))
theorem mf_X5_turned : pz_MF M_X5_turned 1 := ⟨pz_in 872 (by decide +kernel) rfl, pz_in 61 (by decide +kernel) rfl, by decide +kernel, by decide⟩
theorem mi_X5_turned : Cond.instanceMethod yX5_turned ∈ pz_U := pz_in 870 (by decide +kernel) rfl
theorem ms_X5_turned : Cond.selects RX5 yX5_turned yX5_turned ∈ pz_U := pz_in 871 (by decide +kernel) rfl
abbrev M_X5_orders : pz_M := (yX5_orders, cX5_orders, 3, (some .int))
theorem mf_X5_orders : pz_MF M_X5_orders 1 := ⟨pz_in 876 (by decide +kernel) rfl, pz_in 61 (by decide +kernel) rfl, by decide +kernel, by decide⟩
theorem mi_X5_orders : Cond.instanceMethod yX5_orders ∈ pz_U := pz_in 874 (by decide +kernel) rfl
theorem ms_X5_orders : Cond.selects RX5 yX5_orders yX5_orders ∈ pz_U := pz_in 875 (by decide +kernel) rfl
abbrev M_X5_order : pz_M := (yX5_order, cX5_order, 4, (some .long))
theorem mf_X5_order : pz_MF M_X5_order 2 := ⟨pz_in 880 (by decide +kernel) rfl, pz_in 61 (by decide +kernel) rfl, by decide +kernel, by decide⟩
theorem mi_X5_order : Cond.instanceMethod yX5_order ∈ pz_U := pz_in 878 (by decide +kernel) rfl
theorem ms_X5_order : Cond.selects RX5 yX5_order yX5_order ∈ pz_U := pz_in 879 (by decide +kernel) rfl
abbrev M_X5_check : pz_M := (yX5_check, cX5_check, 8, (some .int))
theorem mf_X5_check : pz_MF M_X5_check 2 := ⟨pz_in 891 (by decide +kernel) rfl, pz_in 61 (by decide +kernel) rfl, by decide +kernel, by decide⟩
theorem mi_X5_check : Cond.instanceMethod yX5_check ∈ pz_U := pz_in 889 (by decide +kernel) rfl
theorem ms_X5_check : Cond.selects RX5 yX5_check yX5_check ∈ pz_U := pz_in 890 (by decide +kernel) rfl
abbrev M_X5_isBetween : pz_M := (yX5_isBetween, cX5_isBetween, 5, (some .boolean))
theorem mf_X5_isBetween : pz_MF M_X5_isBetween 2 := ⟨pz_in 896 (by decide +kernel) rfl, pz_in 61 (by decide +kernel) rfl, by decide +kernel, by decide⟩
theorem mi_X5_isBetween : Cond.instanceMethod yX5_isBetween ∈ pz_U := pz_in 895 (by decide +kernel) rfl
theorem ms_X5_isBetween : Cond.selects RX5 yX5_isBetween yX5_isBetween ∈ pz_U := pz_in 47 (by decide +kernel) rfl
abbrev M_X5_forced : pz_M := (yX5_forced, cX5_forced, 4, (some .int))
theorem mf_X5_forced : pz_MF M_X5_forced 2 := ⟨pz_in 900 (by decide +kernel) rfl, pz_in 61 (by decide +kernel) rfl, by decide +kernel, by decide⟩
theorem mi_X5_forced : Cond.instanceMethod yX5_forced ∈ pz_U := pz_in 898 (by decide +kernel) rfl
theorem ms_X5_forced : Cond.selects RX5 yX5_forced yX5_forced ∈ pz_U := pz_in 899 (by decide +kernel) rfl
abbrev M_X5_above : pz_M := (yX5_above, cX5_above, 6, (some .int))
theorem mf_X5_above : pz_MF M_X5_above 3 := ⟨pz_in 904 (by decide +kernel) rfl, pz_in 61 (by decide +kernel) rfl, by decide +kernel, by decide⟩
theorem mi_X5_above : Cond.instanceMethod yX5_above ∈ pz_U := pz_in 902 (by decide +kernel) rfl
theorem ms_X5_above : Cond.selects RX5 yX5_above yX5_above ∈ pz_U := pz_in 903 (by decide +kernel) rfl
abbrev M_X5_alike : pz_M := (yX5_alike, cX5_alike, 5, (some .int))
theorem mf_X5_alike : pz_MF M_X5_alike 2 := ⟨pz_in 908 (by decide +kernel) rfl, pz_in 61 (by decide +kernel) rfl, by decide +kernel, by decide⟩
theorem mi_X5_alike : Cond.instanceMethod yX5_alike ∈ pz_U := pz_in 906 (by decide +kernel) rfl
theorem ms_X5_alike : Cond.selects RX5 yX5_alike yX5_alike ∈ pz_U := pz_in 907 (by decide +kernel) rfl
abbrev M_X5_foldings : pz_M := (yX5_foldings, cX5_foldings, 5, (some .int))
theorem mf_X5_foldings : pz_MF M_X5_foldings 1 := ⟨pz_in 914 (by decide +kernel) rfl, pz_in 61 (by decide +kernel) rfl, by decide +kernel, by decide⟩
theorem mi_X5_foldings : Cond.instanceMethod yX5_foldings ∈ pz_U := pz_in 912 (by decide +kernel) rfl
theorem ms_X5_foldings : Cond.selects RX5 yX5_foldings yX5_foldings ∈ pz_U := pz_in 913 (by decide +kernel) rfl
abbrev M_X5_isAllowed : pz_M := (yX5_isAllowed, cX5_isAllowed, 2, (some .boolean))
theorem mf_X5_isAllowed : pz_MF M_X5_isAllowed 1 := ⟨pz_in 922 (by decide +kernel) rfl, pz_in 61 (by decide +kernel) rfl, by decide +kernel, by decide⟩
theorem mi_X5_isAllowed : Cond.instanceMethod yX5_isAllowed ∈ pz_U := pz_in 921 (by decide +kernel) rfl
theorem ms_X5_isAllowed : Cond.selects RX5 yX5_isAllowed yX5_isAllowed ∈ pz_U := pz_in 48 (by decide +kernel) rfl
abbrev M_X5_clash : pz_M := (yX5_clash, cX5_clash, 5, (some .int))
theorem mf_X5_clash : pz_MF M_X5_clash 1 := ⟨pz_in 918 (by decide +kernel) rfl, pz_in 61 (by decide +kernel) rfl, by decide +kernel, by decide⟩
theorem mi_X5_clash : Cond.instanceMethod yX5_clash ∈ pz_U := pz_in 916 (by decide +kernel) rfl
theorem ms_X5_clash : Cond.selects RX5 yX5_clash yX5_clash ∈ pz_U := pz_in 917 (by decide +kernel) rfl
abbrev M_X5_inClash : pz_M := (yX5_inClash, cX5_inClash, 2, (some .int))
theorem mf_X5_inClash : pz_MF M_X5_inClash 1 := ⟨pz_in 926 (by decide +kernel) rfl, pz_in 61 (by decide +kernel) rfl, by decide +kernel, by decide⟩
theorem mi_X5_inClash : Cond.instanceMethod yX5_inClash ∈ pz_U := pz_in 924 (by decide +kernel) rfl
theorem ms_X5_inClash : Cond.selects RX5 yX5_inClash yX5_inClash ∈ pz_U := pz_in 925 (by decide +kernel) rfl
abbrev M_X5_gapsOf : pz_M := (yX5_gapsOf, cX5_gapsOf, 3, (some .int))
theorem mf_X5_gapsOf : pz_MF M_X5_gapsOf 2 := ⟨pz_in 934 (by decide +kernel) rfl, pz_in 61 (by decide +kernel) rfl, by decide +kernel, by decide⟩
theorem mi_X5_gapsOf : Cond.instanceMethod yX5_gapsOf ∈ pz_U := pz_in 933 (by decide +kernel) rfl
theorem ms_X5_gapsOf : Cond.selects RX5 yX5_gapsOf yX5_gapsOf ∈ pz_U := pz_in 49 (by decide +kernel) rfl
abbrev M_X5_lengthOf : pz_M := (yX5_lengthOf, cX5_lengthOf, 3, (some .int))
theorem mf_X5_lengthOf : pz_MF M_X5_lengthOf 2 := ⟨pz_in 953 (by decide +kernel) rfl, pz_in 61 (by decide +kernel) rfl, by decide +kernel, by decide⟩
theorem mi_X5_lengthOf : Cond.instanceMethod yX5_lengthOf ∈ pz_U := pz_in 952 (by decide +kernel) rfl
theorem ms_X5_lengthOf : Cond.selects RX5 yX5_lengthOf yX5_lengthOf ∈ pz_U := pz_in 53 (by decide +kernel) rfl
abbrev M_X5_goesUp : pz_M := (yX5_goesUp, cX5_goesUp, 4, (some .boolean))
theorem mf_X5_goesUp : pz_MF M_X5_goesUp 2 := ⟨pz_in 949 (by decide +kernel) rfl, pz_in 61 (by decide +kernel) rfl, by decide +kernel, by decide⟩
theorem mt_X5_goesUp : Cond.static yX5_goesUp ∈ pz_U := pz_in 948 (by decide +kernel) rfl
abbrev M_X5_liesAt : pz_M := (yX5_liesAt, cX5_liesAt, 6, (some .int))
theorem mf_X5_liesAt : pz_MF M_X5_liesAt 3 := ⟨pz_in 946 (by decide +kernel) rfl, pz_in 61 (by decide +kernel) rfl, by decide +kernel, by decide⟩
theorem mi_X5_liesAt : Cond.instanceMethod yX5_liesAt ∈ pz_U := pz_in 945 (by decide +kernel) rfl
theorem ms_X5_liesAt : Cond.selects RX5 yX5_liesAt yX5_liesAt ∈ pz_U := pz_in 52 (by decide +kernel) rfl
abbrev M_X5_done : pz_M := (yX5_done, cX5_done, 18, (some .int))
theorem mf_X5_done : pz_MF M_X5_done 4 := ⟨pz_in 957 (by decide +kernel) rfl, pz_in 61 (by decide +kernel) rfl, by decide +kernel, by decide⟩
theorem mi_X5_done : Cond.instanceMethod yX5_done ∈ pz_U := pz_in 956 (by decide +kernel) rfl
theorem ms_X5_done : Cond.selects RX5 yX5_done yX5_done ∈ pz_U := pz_in 54 (by decide +kernel) rfl
abbrev M_X5_stateOf : pz_M := (yX5_stateOf, cX5_stateOf, 3, (some .int))
theorem mf_X5_stateOf : pz_MF M_X5_stateOf 2 := ⟨pz_in 938 (by decide +kernel) rfl, pz_in 61 (by decide +kernel) rfl, by decide +kernel, by decide⟩
theorem mi_X5_stateOf : Cond.instanceMethod yX5_stateOf ∈ pz_U := pz_in 937 (by decide +kernel) rfl
theorem ms_X5_stateOf : Cond.selects RX5 yX5_stateOf yX5_stateOf ∈ pz_U := pz_in 50 (by decide +kernel) rfl
abbrev M_X5_simple : pz_M := (yX5_simple, cX5_simple, 9, (some .int))
theorem mf_X5_simple : pz_MF M_X5_simple 1 := ⟨pz_in 930 (by decide +kernel) rfl, pz_in 61 (by decide +kernel) rfl, by decide +kernel, by decide⟩
theorem mi_X5_simple : Cond.instanceMethod yX5_simple ∈ pz_U := pz_in 928 (by decide +kernel) rfl
theorem ms_X5_simple : Cond.selects RX5 yX5_simple yX5_simple ∈ pz_U := pz_in 929 (by decide +kernel) rfl
abbrev M_X5_best : pz_M := (yX5_best, cX5_best, 16, (some .int))
theorem mf_X5_best : pz_MF M_X5_best 6 := ⟨pz_in 942 (by decide +kernel) rfl, pz_in 61 (by decide +kernel) rfl, by decide +kernel, by decide⟩
theorem mi_X5_best : Cond.instanceMethod yX5_best ∈ pz_U := pz_in 941 (by decide +kernel) rfl
theorem ms_X5_best : Cond.selects RX5 yX5_best yX5_best ∈ pz_U := pz_in 51 (by decide +kernel) rfl
abbrev M_X5_step : pz_M := (yX5_step, cX5_step, 2, (some .int))
theorem mf_X5_step : pz_MF M_X5_step 1 := ⟨pz_in 961 (by decide +kernel) rfl, pz_in 61 (by decide +kernel) rfl, by decide +kernel, by decide⟩
theorem mi_X5_step : Cond.instanceMethod yX5_step ∈ pz_U := pz_in 959 (by decide +kernel) rfl
theorem ms_X5_step : Cond.selects RX5 yX5_step yX5_step ∈ pz_U := pz_in 960 (by decide +kernel) rfl
abbrev M_X5_creasesIn : pz_M := (yX5_creasesIn, cX5_creasesIn, 4, (some .int))
theorem mf_X5_creasesIn : pz_MF M_X5_creasesIn 3 := ⟨pz_in 969 (by decide +kernel) rfl, pz_in 61 (by decide +kernel) rfl, by decide +kernel, by decide⟩
theorem mi_X5_creasesIn : Cond.instanceMethod yX5_creasesIn ∈ pz_U := pz_in 968 (by decide +kernel) rfl
theorem ms_X5_creasesIn : Cond.selects RX5 yX5_creasesIn yX5_creasesIn ∈ pz_U := pz_in 55 (by decide +kernel) rfl
abbrev M_X5_fold : pz_M := (yX5_fold, cX5_fold, 5, (some .int))
theorem mf_X5_fold : pz_MF M_X5_fold 2 := ⟨pz_in 965 (by decide +kernel) rfl, pz_in 61 (by decide +kernel) rfl, by decide +kernel, by decide⟩
theorem mi_X5_fold : Cond.instanceMethod yX5_fold ∈ pz_U := pz_in 963 (by decide +kernel) rfl
theorem ms_X5_fold : Cond.selects RX5 yX5_fold yX5_fold ∈ pz_U := pz_in 964 (by decide +kernel) rfl
abbrev M_X5_flatten : pz_M := (yX5_flatten, cX5_flatten, 3, (some .int))
theorem mf_X5_flatten : pz_MF M_X5_flatten 1 := ⟨pz_in 976 (by decide +kernel) rfl, pz_in 61 (by decide +kernel) rfl, by decide +kernel, by decide⟩
theorem mi_X5_flatten : Cond.instanceMethod yX5_flatten ∈ pz_U := pz_in 974 (by decide +kernel) rfl
theorem ms_X5_flatten : Cond.selects RX5 yX5_flatten yX5_flatten ∈ pz_U := pz_in 975 (by decide +kernel) rfl
abbrev M_X5_lies : pz_M := (yX5_lies, cX5_lies, 6, (some .int))
theorem mf_X5_lies : pz_MF M_X5_lies 3 := ⟨pz_in 980 (by decide +kernel) rfl, pz_in 61 (by decide +kernel) rfl, by decide +kernel, by decide⟩
theorem mi_X5_lies : Cond.instanceMethod yX5_lies ∈ pz_U := pz_in 978 (by decide +kernel) rfl
theorem ms_X5_lies : Cond.selects RX5 yX5_lies yX5_lies ∈ pz_U := pz_in 979 (by decide +kernel) rfl
abbrev M_J6_bitCount_0f7a4 : pz_M := (yJ6_bitCount_0f7a4, cJ6_bitCount_0f7a4, 1, (some .int))
theorem mf_J6_bitCount_0f7a4 : pz_MF M_J6_bitCount_0f7a4 1 := ⟨pz_in 386 (by decide +kernel) rfl, pz_in 65 (by decide +kernel) rfl, by decide +kernel, by decide⟩
theorem mt_J6_bitCount_0f7a4 : Cond.static yJ6_bitCount_0f7a4 ∈ pz_U := pz_in 385 (by decide +kernel) rfl
abbrev M_J9_max_7cf53 : pz_M := (yJ9_max_7cf53, cJ9_max_7cf53, 2, (some .int))
theorem mf_J9_max_7cf53 : pz_MF M_J9_max_7cf53 2 := ⟨pz_in 250 (by decide +kernel) rfl, pz_in 64 (by decide +kernel) rfl, by decide +kernel, by decide⟩
theorem mt_J9_max_7cf53 : Cond.static yJ9_max_7cf53 ∈ pz_U := pz_in 249 (by decide +kernel) rfl
abbrev M_J9_min_7cf53 : pz_M := (yJ9_min_7cf53, cJ9_min_7cf53, 2, (some .int))
theorem mf_J9_min_7cf53 : pz_MF M_J9_min_7cf53 2 := ⟨pz_in 247 (by decide +kernel) rfl, pz_in 64 (by decide +kernel) rfl, by decide +kernel, by decide⟩
theorem mt_J9_min_7cf53 : Cond.static yJ9_min_7cf53 ∈ pz_U := pz_in 246 (by decide +kernel) rfl
abbrev M_J7_fill_d0a16 : pz_M := (yJ7_fill_d0a16, cJ7_fill_d0a16, 5, none)
theorem mf_J7_fill_d0a16 : pz_MF M_J7_fill_d0a16 2 := ⟨pz_in 551 (by decide +kernel) rfl, pz_in 63 (by decide +kernel) rfl, by decide +kernel, by decide⟩
theorem mt_J7_fill_d0a16 : Cond.static yJ7_fill_d0a16 ∈ pz_U := pz_in 550 (by decide +kernel) rfl
abbrev M_J7_fill_53178 : pz_M := (yJ7_fill_53178, cJ7_fill_53178, 4, none)
theorem mf_J7_fill_53178 : pz_MF M_J7_fill_53178 2 := ⟨pz_in 217 (by decide +kernel) rfl, pz_in 63 (by decide +kernel) rfl, by decide +kernel, by decide⟩
theorem mt_J7_fill_53178 : Cond.static yJ7_fill_53178 ∈ pz_U := pz_in 216 (by decide +kernel) rfl
theorem ml_L_9 : Cond.methodLink RL 9 yX4_init ∈ pz_U := pz_in 69 (by decide +kernel) rfl
theorem ml_X4_1 : Cond.methodLink RX4 1 objectInit ∈ pz_U := pz_in 72 (by decide +kernel) rfl
theorem ml_X4_21 : (RX4, 21, yX2_init, "CreaseFlat") ∈ pz_NM := by decide +kernel
theorem ml_X2_3 : Cond.methodLink RX2 3 objectInit ∈ pz_U := pz_in 82 (by decide +kernel) rfl
theorem ml_X4_55 : (RX4, 55, yX0_init, "CreaseFlat") ∈ pz_NM := by decide +kernel
theorem ml_X0_3 : Cond.methodLink RX0 3 objectInit ∈ pz_U := pz_in 122 (by decide +kernel) rfl
theorem ml_X4_62 : (RX4, 62, yX3_init, "CreaseFlat") ∈ pz_NM := by decide +kernel
theorem ml_X3_3 : Cond.methodLink RX3 3 objectInit ∈ pz_U := pz_in 144 (by decide +kernel) rfl
theorem ml_L_13 : Cond.methodLink RL 13 yX4_strip ∈ pz_U := pz_in 202 (by decide +kernel) rfl
theorem ml_X4_73 : Cond.methodLink RX4 73 yX4_addPaper ∈ pz_U := pz_in 206 (by decide +kernel) rfl
theorem ml_X4_252 : Cond.methodLink RX4 252 yX1_init ∈ pz_U := pz_in 211 (by decide +kernel) rfl
theorem ml_X1_3 : Cond.methodLink RX1 3 objectInit ∈ pz_U := pz_in 214 (by decide +kernel) rfl
theorem ml_X1_67 : Cond.methodLink RX1 67 yJ7_fill_53178 ∈ pz_U := pz_in 215 (by decide +kernel) rfl
theorem ml_X1_73 : Cond.methodLink RX1 73 yX1_joinFaces ∈ pz_U := pz_in 218 (by decide +kernel) rfl
theorem ml_X1_79 : Cond.methodLink RX1 79 yX1_join ∈ pz_U := pz_in 222 (by decide +kernel) rfl
theorem ml_X1_76 : Cond.methodLink RX1 76 yX1_measure ∈ pz_U := pz_in 226 (by decide +kernel) rfl
theorem ml_X1_83 : Cond.methodLink RX1 83 yX1_isFrontUp ∈ pz_U := pz_in 230 (by decide +kernel) rfl
theorem ml_X1_87 : Cond.methodLink RX1 87 yX1_sideOf ∈ pz_U := pz_in 234 (by decide +kernel) rfl
theorem ml_X1_91 : Cond.methodLink RX1 91 yX1_facesOver ∈ pz_U := pz_in 238 (by decide +kernel) rfl
theorem ml_X1_97 : Cond.methodLink RX1 97 yX1_isBetween ∈ pz_U := pz_in 242 (by decide +kernel) rfl
theorem ml_X1_119 : Cond.methodLink RX1 119 yJ9_min_7cf53 ∈ pz_U := pz_in 245 (by decide +kernel) rfl
theorem ml_X1_125 : Cond.methodLink RX1 125 yJ9_max_7cf53 ∈ pz_U := pz_in 248 (by decide +kernel) rfl
theorem ml_X1_94 : Cond.methodLink RX1 94 yX1_rivalsOf ∈ pz_U := pz_in 251 (by decide +kernel) rfl
theorem ml_X1_101 : Cond.methodLink RX1 101 yX1_onOneSide ∈ pz_U := pz_in 255 (by decide +kernel) rfl
theorem ml_X1_105 : Cond.methodLink RX1 105 yX1_haveFourFaces ∈ pz_U := pz_in 259 (by decide +kernel) rfl
theorem ml_L_18 : Cond.methodLink RL 18 yX4_corner ∈ pz_U := pz_in 347 (by decide +kernel) rfl
theorem ml_L_22 : Cond.methodLink RL 22 yX4_map ∈ pz_U := pz_in 351 (by decide +kernel) rfl
theorem ml_L_27 : Cond.methodLink RL 27 yX4_length ∈ pz_U := pz_in 355 (by decide +kernel) rfl
theorem ml_X4_77 : Cond.methodLink RX4 77 yX4_find ∈ pz_U := pz_in 359 (by decide +kernel) rfl
theorem ml_X4_81 : Cond.methodLink RX4 81 yX1_hasFace ∈ pz_U := pz_in 363 (by decide +kernel) rfl
theorem ml_X4_91 : Cond.methodLink RX4 91 yX1_measure ∈ pz_U := pz_in 367 (by decide +kernel) rfl
theorem ml_L_32 : Cond.methodLink RL 32 yX4_mark ∈ pz_U := pz_in 368 (by decide +kernel) rfl
theorem ml_X4_94 : Cond.methodLink RX4 94 yX1_hasCrease ∈ pz_U := pz_in 372 (by decide +kernel) rfl
theorem ml_L_36 : Cond.methodLink RL 36 yX4_about ∈ pz_U := pz_in 376 (by decide +kernel) rfl
theorem ml_X4_106 : Cond.methodLink RX4 106 yX1_marked ∈ pz_U := pz_in 380 (by decide +kernel) rfl
theorem ml_X4_110 : Cond.methodLink RX4 110 yJ6_bitCount_0f7a4 ∈ pz_U := pz_in 384 (by decide +kernel) rfl
theorem ml_L_40 : Cond.methodLink RL 40 yX4_crease ∈ pz_U := pz_in 390 (by decide +kernel) rfl
theorem ml_L_44 : Cond.methodLink RL 44 yX4_judge ∈ pz_U := pz_in 394 (by decide +kernel) rfl
theorem ml_X4_127 : Cond.methodLink RX4 127 yX2_begin ∈ pz_U := pz_in 398 (by decide +kernel) rfl
theorem ml_X2_45 : Cond.methodLink RX2 45 yX2_beginWith ∈ pz_U := pz_in 402 (by decide +kernel) rfl
theorem ml_X2_49 : Cond.methodLink RX2 49 yJ7_fill_53178 ∈ pz_U := pz_in 406 (by decide +kernel) rfl
theorem ml_X2_60 : (RX2, 60, yX4_has, "CreaseFlat") ∈ pz_NM := by decide +kernel
theorem ml_X2_67 : Cond.methodLink RX2 67 yX2_demandTurn ∈ pz_U := pz_in 410 (by decide +kernel) rfl
theorem ml_X2_71 : Cond.methodLink RX2 71 yX1_hasCrease ∈ pz_U := pz_in 414 (by decide +kernel) rfl
theorem ml_X2_81 : Cond.methodLink RX2 81 yX1_isFrontUp ∈ pz_U := pz_in 415 (by decide +kernel) rfl
theorem ml_X2_84 : Cond.methodLink RX2 84 yX2_demandBelow ∈ pz_U := pz_in 416 (by decide +kernel) rfl
theorem ml_X2_87 : Cond.methodLink RX2 87 yX1_hasFace ∈ pz_U := pz_in 420 (by decide +kernel) rfl
theorem ml_X4_131 : Cond.methodLink RX4 131 yX2_next ∈ pz_U := pz_in 421 (by decide +kernel) rfl
theorem ml_X2_90 : Cond.methodLink RX2 90 yX1_isUneven ∈ pz_U := pz_in 425 (by decide +kernel) rfl
theorem ml_X2_94 : Cond.methodLink RX2 94 yX2_demandsClash ∈ pz_U := pz_in 429 (by decide +kernel) rfl
theorem ml_X2_98 : Cond.methodLink RX2 98 yX2_candidates ∈ pz_U := pz_in 433 (by decide +kernel) rfl
theorem ml_X2_127 : Cond.methodLink RX2 127 yX2_barredFromClosing ∈ pz_U := pz_in 437 (by decide +kernel) rfl
theorem ml_X2_131 : Cond.methodLink RX2 131 yX2_readyAmong ∈ pz_U := pz_in 441 (by decide +kernel) rfl
theorem ml_X2_103 : Cond.methodLink RX2 103 yX2_leastUntried ∈ pz_U := pz_in 446 (by decide +kernel) rfl
theorem ml_X2_107 : Cond.methodLink RX2 107 yX2_put ∈ pz_U := pz_in 450 (by decide +kernel) rfl
theorem ml_X2_113 : Cond.methodLink RX2 113 yX2_takeOff ∈ pz_U := pz_in 454 (by decide +kernel) rfl
theorem ml_L_48 : Cond.methodLink RL 48 yX4_layer ∈ pz_U := pz_in 461 (by decide +kernel) rfl
theorem ml_L_52 : Cond.methodLink RL 52 yX4_turned ∈ pz_U := pz_in 465 (by decide +kernel) rfl
theorem ml_X4_147 : Cond.methodLink RX4 147 yX1_becomes ∈ pz_U := pz_in 469 (by decide +kernel) rfl
theorem ml_L_56 : Cond.methodLink RL 56 yX4_orders ∈ pz_U := pz_in 473 (by decide +kernel) rfl
theorem ml_L_60 : Cond.methodLink RL 60 yX4_order ∈ pz_U := pz_in 478 (by decide +kernel) rfl
theorem ml_X4_156 : Cond.methodLink RX4 156 yX2_asNumber ∈ pz_U := pz_in 484 (by decide +kernel) rfl
theorem ml_L_67 : Cond.methodLink RL 67 yX4_check ∈ pz_U := pz_in 489 (by decide +kernel) rfl
theorem ml_X4_160 : Cond.methodLink RX4 160 yX4_readOrder ∈ pz_U := pz_in 493 (by decide +kernel) rfl
theorem ml_X4_205 : Cond.methodLink RX4 205 yX4_has ∈ pz_U := pz_in 498 (by decide +kernel) rfl
theorem ml_X4_164 : Cond.methodLink RX4 164 yX1_isUneven ∈ pz_U := pz_in 499 (by decide +kernel) rfl
theorem ml_X4_168 : Cond.methodLink RX4 168 yX1_brokenMark ∈ pz_U := pz_in 501 (by decide +kernel) rfl
theorem ml_X1_108 : Cond.methodLink RX1 108 yX1_becomes ∈ pz_U := pz_in 505 (by decide +kernel) rfl
theorem ml_X4_172 : Cond.methodLink RX4 172 yX1_brokenThrough ∈ pz_U := pz_in 506 (by decide +kernel) rfl
theorem ml_X1_112 : (RX1, 112, yX4_has, "CreaseFlat") ∈ pz_NM := by decide +kernel
theorem ml_X1_115 : Cond.methodLink RX1 115 yX1_liesWithin ∈ pz_U := pz_in 511 (by decide +kernel) rfl
theorem ml_X4_175 : Cond.methodLink RX4 175 yX1_brokenAcross ∈ pz_U := pz_in 515 (by decide +kernel) rfl
theorem ml_L_72 : Cond.methodLink RL 72 yX4_forced ∈ pz_U := pz_in 519 (by decide +kernel) rfl
theorem ml_X4_178 : Cond.methodLink RX4 178 yX4_canBecome ∈ pz_U := pz_in 523 (by decide +kernel) rfl
theorem ml_X4_257 : Cond.methodLink RX4 257 yX2_demandTurn ∈ pz_U := pz_in 527 (by decide +kernel) rfl
theorem ml_L_76 : Cond.methodLink RL 76 yX4_above ∈ pz_U := pz_in 528 (by decide +kernel) rfl
theorem ml_X4_182 : Cond.methodLink RX4 182 yX4_canLieBelow ∈ pz_U := pz_in 532 (by decide +kernel) rfl
theorem ml_X4_261 : Cond.methodLink RX4 261 yX2_demandBelow ∈ pz_U := pz_in 536 (by decide +kernel) rfl
theorem ml_L_80 : Cond.methodLink RL 80 yX4_alike ∈ pz_U := pz_in 537 (by decide +kernel) rfl
theorem ml_X4_185 : Cond.methodLink RX4 185 yX4_allowTheSame ∈ pz_U := pz_in 541 (by decide +kernel) rfl
theorem ml_L_84 : Cond.methodLink RL 84 yX4_foldings ∈ pz_U := pz_in 545 (by decide +kernel) rfl
theorem ml_X4_189 : Cond.methodLink RX4 189 yJ7_fill_d0a16 ∈ pz_U := pz_in 549 (by decide +kernel) rfl
theorem ml_X4_195 : Cond.methodLink RX4 195 yX1_valleysIn ∈ pz_U := pz_in 552 (by decide +kernel) rfl
theorem ml_X4_198 : Cond.methodLink RX4 198 yX4_isNew ∈ pz_U := pz_in 556 (by decide +kernel) rfl
theorem ml_L_88 : Cond.methodLink RL 88 yX4_clash ∈ pz_U := pz_in 560 (by decide +kernel) rfl
theorem ml_X4_201 : Cond.methodLink RX4 201 yX4_allowsSome ∈ pz_U := pz_in 564 (by decide +kernel) rfl
theorem ml_X4_264 : Cond.methodLink RX4 264 yX2_beginWith ∈ pz_U := pz_in 568 (by decide +kernel) rfl
theorem ml_L_92 : Cond.methodLink RL 92 yX4_inClash ∈ pz_U := pz_in 569 (by decide +kernel) rfl
theorem ml_L_96 : Cond.methodLink RL 96 yX4_simple ∈ pz_U := pz_in 573 (by decide +kernel) rfl
theorem ml_X4_209 : Cond.methodLink RX4 209 yX3_explore ∈ pz_U := pz_in 577 (by decide +kernel) rfl
theorem ml_X3_21 : Cond.methodLink RX3 21 yX1_allLines ∈ pz_U := pz_in 581 (by decide +kernel) rfl
theorem ml_X3_27 : Cond.methodLink RX3 27 yJ9_min_7cf53 ∈ pz_U := pz_in 585 (by decide +kernel) rfl
theorem ml_X3_33 : Cond.methodLink RX3 33 yX0_put ∈ pz_U := pz_in 586 (by decide +kernel) rfl
theorem ml_X0_23 : Cond.methodLink RX0 23 yX0_bands ∈ pz_U := pz_in 590 (by decide +kernel) rfl
theorem ml_X0_27 : Cond.methodLink RX0 27 yX0_lineBehind ∈ pz_U := pz_in 594 (by decide +kernel) rfl
theorem ml_X0_31 : (RX0, 31, yX4_has, "CreaseFlat") ∈ pz_NM := by decide +kernel
theorem ml_X3_39 : Cond.methodLink RX3 39 yX3_tryLines ∈ pz_U := pz_in 599 (by decide +kernel) rfl
theorem ml_X3_43 : Cond.methodLink RX3 43 yX0_bands ∈ pz_U := pz_in 603 (by decide +kernel) rfl
theorem ml_X3_47 : Cond.methodLink RX3 47 yX0_lineBehind ∈ pz_U := pz_in 604 (by decide +kernel) rfl
theorem ml_X3_51 : (RX3, 51, yX4_has, "CreaseFlat") ∈ pz_NM := by decide +kernel
theorem ml_X3_59 : Cond.methodLink RX3 59 yX3_tryStep ∈ pz_U := pz_in 606 (by decide +kernel) rfl
theorem ml_X3_62 : Cond.methodLink RX3 62 yX0_linesFoldedBy ∈ pz_U := pz_in 610 (by decide +kernel) rfl
theorem ml_X0_53 : Cond.methodLink RX0 53 yX0_unfoldedAt ∈ pz_U := pz_in 614 (by decide +kernel) rfl
theorem ml_X0_56 : Cond.methodLink RX0 56 yX0_isWithinOne ∈ pz_U := pz_in 618 (by decide +kernel) rfl
theorem ml_X0_64 : Cond.methodLink RX0 64 yX1_isBetween ∈ pz_U := pz_in 622 (by decide +kernel) rfl
theorem ml_X0_60 : Cond.methodLink RX0 60 yX0_marksAllow ∈ pz_U := pz_in 623 (by decide +kernel) rfl
theorem ml_X0_80 : Cond.methodLink RX0 80 yX0_isFrontUp ∈ pz_U := pz_in 627 (by decide +kernel) rfl
theorem ml_X4_216 : Cond.methodLink RX4 216 yX1_allLines ∈ pz_U := pz_in 631 (by decide +kernel) rfl
theorem ml_X4_220 : Cond.methodLink RX4 220 yX3_trace ∈ pz_U := pz_in 632 (by decide +kernel) rfl
theorem ml_L_100 : Cond.methodLink RL 100 yX4_step ∈ pz_U := pz_in 636 (by decide +kernel) rfl
theorem ml_L_104 : Cond.methodLink RL 104 yX4_fold ∈ pz_U := pz_in 640 (by decide +kernel) rfl
theorem ml_X4_226 : Cond.methodLink RX4 226 yX0_put ∈ pz_U := pz_in 644 (by decide +kernel) rfl
theorem ml_X4_230 : Cond.methodLink RX4 230 yX0_linesFoldedBy ∈ pz_U := pz_in 645 (by decide +kernel) rfl
theorem ml_X4_234 : Cond.methodLink RX4 234 yX1_creasesOn ∈ pz_U := pz_in 646 (by decide +kernel) rfl
theorem ml_L_108 : Cond.methodLink RL 108 yX4_flatten ∈ pz_U := pz_in 650 (by decide +kernel) rfl
theorem ml_L_112 : Cond.methodLink RL 112 yX4_lies ∈ pz_U := pz_in 654 (by decide +kernel) rfl
theorem ml_X4_246 : Cond.methodLink RX4 246 yX0_isFrontUp ∈ pz_U := pz_in 658 (by decide +kernel) rfl
theorem ml_L_12 : Cond.methodLink RL 12 yX5_init ∈ pz_U := pz_in 661 (by decide +kernel) rfl
theorem ml_X5_1 : Cond.methodLink RX5 1 objectInit ∈ pz_U := pz_in 664 (by decide +kernel) rfl
theorem ml_L_17 : Cond.methodLink RL 17 yX5_strip ∈ pz_U := pz_in 755 (by decide +kernel) rfl
theorem ml_X5_89 : Cond.methodLink RX5 89 yX5_add ∈ pz_U := pz_in 759 (by decide +kernel) rfl
theorem ml_X5_93 : Cond.methodLink RX5 93 yX5_addCrease ∈ pz_U := pz_in 763 (by decide +kernel) rfl
theorem ml_L_21 : Cond.methodLink RL 21 yX5_corner ∈ pz_U := pz_in 767 (by decide +kernel) rfl
theorem ml_L_26 : Cond.methodLink RL 26 yX5_map ∈ pz_U := pz_in 771 (by decide +kernel) rfl
theorem ml_L_31 : Cond.methodLink RL 31 yX5_length ∈ pz_U := pz_in 775 (by decide +kernel) rfl
theorem ml_X5_97 : Cond.methodLink RX5 97 yX5_hasFace ∈ pz_U := pz_in 779 (by decide +kernel) rfl
theorem ml_X5_85 : Cond.methodLink RX5 85 yX5_has ∈ pz_U := pz_in 783 (by decide +kernel) rfl
theorem ml_L_35 : Cond.methodLink RL 35 yX5_mark ∈ pz_U := pz_in 787 (by decide +kernel) rfl
theorem ml_X5_101 : Cond.methodLink RX5 101 yX5_hasCrease ∈ pz_U := pz_in 791 (by decide +kernel) rfl
theorem ml_L_39 : Cond.methodLink RL 39 yX5_about ∈ pz_U := pz_in 795 (by decide +kernel) rfl
theorem ml_X5_104 : Cond.methodLink RX5 104 yX5_marked ∈ pz_U := pz_in 799 (by decide +kernel) rfl
theorem ml_X5_107 : Cond.methodLink RX5 107 yX5_uneven ∈ pz_U := pz_in 803 (by decide +kernel) rfl
theorem ml_L_43 : Cond.methodLink RL 43 yX5_crease ∈ pz_U := pz_in 807 (by decide +kernel) rfl
theorem ml_X5_114 : Cond.methodLink RX5 114 yX5_placeOf ∈ pz_U := pz_in 811 (by decide +kernel) rfl
theorem ml_X5_111 : Cond.methodLink RX5 111 yX5_begins ∈ pz_U := pz_in 815 (by decide +kernel) rfl
theorem ml_L_47 : Cond.methodLink RL 47 yX5_judge ∈ pz_U := pz_in 819 (by decide +kernel) rfl
theorem ml_X5_157 : Cond.methodLink RX5 157 yX5_begin ∈ pz_U := pz_in 823 (by decide +kernel) rfl
theorem ml_X5_161 : Cond.methodLink RX5 161 yX5_next ∈ pz_U := pz_in 827 (by decide +kernel) rfl
theorem ml_X5_152 : Cond.methodLink RX5 152 yX5_isFine ∈ pz_U := pz_in 831 (by decide +kernel) rfl
theorem ml_X5_136 : Cond.methodLink RX5 136 yX5_isClosed ∈ pz_U := pz_in 835 (by decide +kernel) rfl
theorem ml_X5_143 : Cond.methodLink RX5 143 yX5_markIn ∈ pz_U := pz_in 839 (by decide +kernel) rfl
theorem ml_X5_133 : Cond.methodLink RX5 133 yX5_isUp ∈ pz_U := pz_in 843 (by decide +kernel) rfl
theorem ml_X5_127 : Cond.methodLink RX5 127 yX5_lesser ∈ pz_U := pz_in 847 (by decide +kernel) rfl
theorem ml_X5_130 : Cond.methodLink RX5 130 yX5_greater ∈ pz_U := pz_in 850 (by decide +kernel) rfl
theorem ml_X5_146 : Cond.methodLink RX5 146 yX5_isOneSide ∈ pz_U := pz_in 853 (by decide +kernel) rfl
theorem ml_X5_149 : Cond.methodLink RX5 149 yX5_isFour ∈ pz_U := pz_in 857 (by decide +kernel) rfl
theorem ml_X5_140 : Cond.methodLink RX5 140 yX5_isWithin ∈ pz_U := pz_in 861 (by decide +kernel) rfl
theorem ml_L_51 : Cond.methodLink RL 51 yX5_layer ∈ pz_U := pz_in 865 (by decide +kernel) rfl
theorem ml_L_55 : Cond.methodLink RL 55 yX5_turned ∈ pz_U := pz_in 869 (by decide +kernel) rfl
theorem ml_L_59 : Cond.methodLink RL 59 yX5_orders ∈ pz_U := pz_in 873 (by decide +kernel) rfl
theorem ml_L_64 : Cond.methodLink RL 64 yX5_order ∈ pz_U := pz_in 877 (by decide +kernel) rfl
theorem ml_X5_167 : Cond.methodLink RX5 167 yX5_number ∈ pz_U := pz_in 882 (by decide +kernel) rfl
theorem ml_L_71 : Cond.methodLink RL 71 yX5_check ∈ pz_U := pz_in 888 (by decide +kernel) rfl
theorem ml_X5_174 : Cond.methodLink RX5 174 yX5_isBetween ∈ pz_U := pz_in 893 (by decide +kernel) rfl
theorem ml_L_75 : Cond.methodLink RL 75 yX5_forced ∈ pz_U := pz_in 897 (by decide +kernel) rfl
theorem ml_L_79 : Cond.methodLink RL 79 yX5_above ∈ pz_U := pz_in 901 (by decide +kernel) rfl
theorem ml_L_83 : Cond.methodLink RL 83 yX5_alike ∈ pz_U := pz_in 905 (by decide +kernel) rfl
theorem ml_X5_177 : Cond.methodLink RX5 177 yX5_orders ∈ pz_U := pz_in 909 (by decide +kernel) rfl
theorem ml_X5_180 : Cond.methodLink RX5 180 yX5_check ∈ pz_U := pz_in 910 (by decide +kernel) rfl
theorem ml_L_87 : Cond.methodLink RL 87 yX5_foldings ∈ pz_U := pz_in 911 (by decide +kernel) rfl
theorem ml_L_91 : Cond.methodLink RL 91 yX5_clash ∈ pz_U := pz_in 915 (by decide +kernel) rfl
theorem ml_X5_187 : Cond.methodLink RX5 187 yX5_isAllowed ∈ pz_U := pz_in 919 (by decide +kernel) rfl
theorem ml_L_95 : Cond.methodLink RL 95 yX5_inClash ∈ pz_U := pz_in 923 (by decide +kernel) rfl
theorem ml_L_99 : Cond.methodLink RL 99 yX5_simple ∈ pz_U := pz_in 927 (by decide +kernel) rfl
theorem ml_X5_196 : Cond.methodLink RX5 196 yX5_gapsOf ∈ pz_U := pz_in 931 (by decide +kernel) rfl
theorem ml_X5_204 : Cond.methodLink RX5 204 yX5_stateOf ∈ pz_U := pz_in 935 (by decide +kernel) rfl
theorem ml_X5_207 : Cond.methodLink RX5 207 yX5_best ∈ pz_U := pz_in 939 (by decide +kernel) rfl
theorem ml_X5_200 : Cond.methodLink RX5 200 yX5_liesAt ∈ pz_U := pz_in 943 (by decide +kernel) rfl
theorem ml_X5_190 : Cond.methodLink RX5 190 yX5_goesUp ∈ pz_U := pz_in 947 (by decide +kernel) rfl
theorem ml_X5_193 : Cond.methodLink RX5 193 yX5_lengthOf ∈ pz_U := pz_in 950 (by decide +kernel) rfl
theorem ml_X5_214 : Cond.methodLink RX5 214 yX5_done ∈ pz_U := pz_in 954 (by decide +kernel) rfl
theorem ml_L_103 : Cond.methodLink RL 103 yX5_step ∈ pz_U := pz_in 958 (by decide +kernel) rfl
theorem ml_L_107 : Cond.methodLink RL 107 yX5_fold ∈ pz_U := pz_in 962 (by decide +kernel) rfl
theorem ml_X5_221 : Cond.methodLink RX5 221 yX5_creasesIn ∈ pz_U := pz_in 966 (by decide +kernel) rfl
theorem ml_X5_218 : Cond.methodLink RX5 218 yX5_bits ∈ pz_U := pz_in 970 (by decide +kernel) rfl
theorem ml_L_111 : Cond.methodLink RL 111 yX5_flatten ∈ pz_U := pz_in 973 (by decide +kernel) rfl
theorem ml_L_115 : Cond.methodLink RL 115 yX5_lies ∈ pz_U := pz_in 977 (by decide +kernel) rfl
theorem mi_obj : Cond.instanceMethod objectInit ∈ pz_U := pz_in 73 (by decide +kernel) rfl
theorem mc_obj : Cond.code objectInit ⟨#[0xb1]⟩ 1 none ∈ pz_U := pz_in 74 (by decide +kernel) rfl
theorem cz_L : Cond.initialized RL ∈ pz_U := pz_in 56 (by decide +kernel) rfl
theorem cz_X4 : Cond.initialized RX4 ∈ pz_U := pz_in 57 (by decide +kernel) rfl
theorem cz_X2 : Cond.initialized RX2 ∈ pz_U := pz_in 58 (by decide +kernel) rfl
theorem cz_X0 : Cond.initialized RX0 ∈ pz_U := pz_in 59 (by decide +kernel) rfl
theorem cz_X3 : Cond.initialized RX3 ∈ pz_U := pz_in 60 (by decide +kernel) rfl
theorem cz_X5 : Cond.initialized RX5 ∈ pz_U := pz_in 61 (by decide +kernel) rfl
theorem cz_X1 : Cond.initialized RX1 ∈ pz_U := pz_in 62 (by decide +kernel) rfl
theorem cz_J7 : Cond.initialized RJ7 ∈ pz_U := pz_in 63 (by decide +kernel) rfl
theorem cz_J9 : Cond.initialized RJ9 ∈ pz_U := pz_in 64 (by decide +kernel) rfl
theorem cz_J6 : Cond.initialized RJ6 ∈ pz_U := pz_in 65 (by decide +kernel) rfl
theorem cz_J10 : Cond.initialized RJ10 ∈ pz_U := pz_in 66 (by decide +kernel) rfl
theorem cl_L_7 : Cond.classLink RL 7 "CreaseFlat" ∈ pz_U := pz_in 67 (by decide +kernel) rfl
theorem ci_X4 : Cond.instantiable RX4 15 ∈ pz_U := pz_in 68 (by decide +kernel) rfl
theorem cl_X4_9 : Cond.classLink RX4 9 "CreaseFlat$Paper" ∈ pz_U := pz_in 75 (by decide +kernel) rfl
theorem cl_X4_19 : Cond.classLink RX4 19 "CreaseFlat$Pile" ∈ pz_U := pz_in 77 (by decide +kernel) rfl
theorem ci_X2 : Cond.instantiable RX2 10 ∈ pz_U := pz_in 78 (by decide +kernel) rfl
theorem ca_int : Cond.arrayClass .int ∈ pz_U := pz_in 116 (by decide +kernel) rfl
theorem cl_X4_53 : Cond.classLink RX4 53 "CreaseFlat$Lay" ∈ pz_U := pz_in 117 (by decide +kernel) rfl
theorem ci_X0 : Cond.instantiable RX0 3 ∈ pz_U := pz_in 118 (by decide +kernel) rfl
theorem cl_X0_15 : Cond.classLink RX0 15 "[[I" ∈ pz_U := pz_in 123 (by decide +kernel) rfl
theorem ca_long : Cond.arrayClass .long ∈ pz_U := pz_in 138 (by decide +kernel) rfl
theorem cl_X4_60 : Cond.classLink RX4 60 "CreaseFlat$Ways" ∈ pz_U := pz_in 139 (by decide +kernel) rfl
theorem ci_X3 : Cond.instantiable RX3 3 ∈ pz_U := pz_in 140 (by decide +kernel) rfl
theorem ci_X1 : Cond.instantiable RX1 18 ∈ pz_U := pz_in 210 (by decide +kernel) rfl
theorem cn_J6_265 : Cond.constant RJ6 265 1431655765 ∈ pz_U := pz_in 387 (by decide +kernel) rfl
theorem cn_J6_266 : Cond.constant RJ6 266 858993459 ∈ pz_U := pz_in 388 (by decide +kernel) rfl
theorem cn_J6_267 : Cond.constant RJ6 267 252645135 ∈ pz_U := pz_in 389 (by decide +kernel) rfl
theorem cn_X2_102 : Cond.constant RX2 102 2000000 ∈ pz_U := pz_in 445 (by decide +kernel) rfl
theorem cn_X4_151 : Cond.constant RX4 151 362880 ∈ pz_U := pz_in 477 (by decide +kernel) rfl
theorem cn_X4_152 : Cond.constantLong RX4 152 (-101) ∈ pz_U := pz_in 482 (by decide +kernel) rfl
theorem cn_X4_154 : Cond.constantLong RX4 154 (-102) ∈ pz_U := pz_in 483 (by decide +kernel) rfl
theorem cn_X2_116 : Cond.constantLong RX2 116 10 ∈ pz_U := pz_in 488 (by decide +kernel) rfl
theorem cn_X4_255 : Cond.constantLong RX4 255 10 ∈ pz_U := pz_in 497 (by decide +kernel) rfl
theorem cn_X4_167 : Cond.constant RX4 167 40000 ∈ pz_U := pz_in 500 (by decide +kernel) rfl
theorem cl_L_10 : Cond.classLink RL 10 "CreaseFlatModel" ∈ pz_U := pz_in 659 (by decide +kernel) rfl
theorem ci_X5 : Cond.instantiable RX5 29 ∈ pz_U := pz_in 660 (by decide +kernel) rfl
theorem cn_X5_75 : Cond.constant RX5 75 65536 ∈ pz_U := pz_in 665 (by decide +kernel) rfl
theorem ca_boolean : Cond.arrayClass .boolean ∈ pz_U := pz_in 754 (by decide +kernel) rfl
theorem cn_X5_165 : Cond.constantLong RX5 165 (-101) ∈ pz_U := pz_in 881 (by decide +kernel) rfl
theorem cn_X5_155 : Cond.constantLong RX5 155 10 ∈ pz_U := pz_in 886 (by decide +kernel) rfl
theorem cn_X5_171 : Cond.constantLong RX5 171 (-102) ∈ pz_U := pz_in 887 (by decide +kernel) rfl
theorem cn_X5_173 : Cond.constant RX5 173 40000 ∈ pz_U := pz_in 892 (by decide +kernel) rfl
theorem cn_L_65 : Cond.constantLong RL 65 4294967295 ∈ pz_U := pz_in 981 (by decide +kernel) rfl
end
section
/-! A SMALL PROGRAM LOGIC OVER W. Every cell that was made since the law's start (from address X.2.2 on) is ours: a heap is held as a pure function h = (cells by address, size). pz_W Ψ X M d pc lv st h rc rs Q: from here method M returns r with heap h', and Q r h'; d frames, rc cells and rs slots are still to be had. pz_Call: the same of a whole method. -/
abbrev pz_E : Type := (Nat × vp_A) ⊕ (Nat × List Value)
abbrev pz_H : Type := (Nat → Option pz_E) × Nat
abbrev pz_X : Type := va_G × (Nat → ClassId) × Nat
def pz_cv (d : Nat → ClassId) (c : pz_E) : va_E := match c with
  | .inl a => .inl (d a.1, a.2)
  | .inr o => .inr o
def pz_R (X : pz_X) (h : pz_H) (H : Heap) : Prop := H.size = h.2 ∧ X.2.2 ≤ h.2 ∧ ∀ (q : Nat) (c : pz_E), h.1 q = some c → X.2.2 ≤ q ∧ va_at X.1 vwCl (q, pz_cv X.2.1 c) H
def pz_kt (X : pz_X) : List (ClassId × FieldType) := (List.range pz_ty.length).map (fun t => (X.2.1 t, pz_ty.getD t .int))
def pz_K (X : pz_X) (U : State) : Prop := va_K X.1 vwCl (pz_kt X) U ∧ (∀ q ∈ pz_NF, va_Nw (.fieldLinkNest q.1 q.2.1 q.2.2.1 q.2.2.2.1 q.2.2.2.2.1 q.2.2.2.2.2) U) ∧ (∀ q ∈ pz_NM, va_Nw (.methodLinkNest q.1 q.2.1 q.2.2.1 q.2.2.2) U) ∧ (∀ C ∈ pz_AO, va_AO C U) ∧ ∃ kA : Class, U.vm.classes[X.2.1 3]? = some kA ∧ kA.kind = .array (X.2.1 0) (.array .int)
def pz_C (M : pz_M) (d : Nat) (X : pz_X) (p : Program) (R : Room) (s : State) (m : MethodId) (args : Array Value) (meth : Method) (c : Code) : Prop :=
  p.tables.exec = Jvm.exec ∧ c.code = M.2.1 ∧ c.maxLocals = M.2.2.1 ∧ s.vm.findClass M.1.cls = some m.cls ∧ (∀ w ∈ pz_U, w.before args s = true) ∧ pz_K X s ∧ (M.1.name = "<init>" → meth.name = "<init>") ∧ d ≤ R.frames ∧ 38 * d ≤ R.locals
def pz_rt (M : pz_M) (pc : Nat) (r : Option Value) : Prop := match r with
  | none => M.2.2.2 = none ∧ decode M.2.1 pc = .ok (.return_, 1)
  | some (.int v) => ∃ ty, M.2.2.2 = some ty ∧ narrow ty (.int v) = .int v ∧ decode M.2.1 pc = .ok (.ireturn, 1)
  | some (.long _) => M.2.2.2 = some .long ∧ decode M.2.1 pc = .ok (.lreturn, 1)
  | some (.ref _) => (∃ rt, M.2.2.2 = some rt ∧ ((∃ n, rt = .object n) ∨ ∃ t, rt = .array t)) ∧ decode M.2.1 pc = .ok (.areturn, 1)
  | some .null => (∃ rt, M.2.2.2 = some rt ∧ ((∃ n, rt = .object n) ∨ ∃ t, rt = .array t)) ∧ decode M.2.1 pc = .ok (.areturn, 1)
  | _ => False
abbrev pz_A (X : pz_X) : Nat → Prop := fun q => X.2.2 ≤ q
def pz_I (X : pz_X) (M : pz_M) (d : Nat) (h : pz_H) (rc rs : Nat) (Q : Option Value → pz_H → Prop) (p : Program) (l : Launch) (e : Env) (R : Room) (s : State) (m : MethodId) (args : Array Value) (below : List Frame) (meth : Method) (c : Code) (Z : State → Prop) (H : Heap) (locs : List Loc) (cells slots : Nat) : Prop :=
  pz_C M d X p R s m args meth c ∧ X.2.2 ≤ s.heap.size ∧
  (∀ (r : Option Value) (h' : pz_H) (H' : Heap) (locs' : List Loc) (pc' : Nat) (ls' : Array Slot), Q r h' → pz_R X h' H' → va_S (pz_A X) s.heap H' locs' → pz_rt M pc' r → W p l e R s m args below meth c H' locs' R.cells R.slots Z (F0 m pc' ls' r.toList)) ∧
  pz_R X h H ∧ va_S (pz_A X) s.heap H locs ∧ cells + rc ≤ R.cells ∧ slots + rs ≤ R.slots
def pz_W (Ψ : State → Prop) (X : pz_X) (M : pz_M) (d pc : Nat) (lv : List (Nat × Value)) (st : List Value) (h : pz_H) (rc rs : Nat) (Q : Option Value → pz_H → Prop) : Prop :=
  ∀ (p : Program) (l : Launch) (e : Env) (R : Room) (s : State) (m : MethodId) (args : Array Value) (below : List Frame) (meth : Method) (c : Code) (Z : State → Prop) (H : Heap) (locs : List Loc) (cells slots : Nat) (ls : Array Slot),
    Ψ s → pz_I X M d h rc rs Q p l e R s m args below meth c Z H locs cells slots → lv_has ls M.2.2.1 lv → W p l e R s m args below meth c H locs cells slots Z (F0 m pc ls st)
def pz_rm (d mc ms : Nat) : Room := { frames := d, cells := mc, slots := ms, locals := 38 * d }
def pz_Pc (X : pz_X) (as : List Value) (h : pz_H) : Array Value → State → Prop := va_Pc as (fun U => pz_R X h U.heap ∧ pz_K X U)
def pz_Qc (X : pz_X) (Q : Option Value → pz_H → Prop) : Array Value → State → Outcome → State → Prop := fun _ st o t => (∃ (r : Option Value) (h' : pz_H), o = .returned r ∧ Q r h' ∧ pz_R X h' t.heap) ∧ va_F (pz_A X) st t
def pz_ws (M : pz_M) : List Cond := .code M.1 M.2.1 M.2.2.1 M.2.2.2 :: pz_U
def pz_Call (X : pz_X) (M : pz_M) (d mc ms : Nat) (as : List Value) (h : pz_H) (Q : Option Value → pz_H → Prop) : Prop :=
  ∀ l : Launch, Met l M.1 (pz_ws M) (pz_rm d mc ms) (pz_Pc X as h) (pz_Qc X Q) mc ms (pz_A X)
def pz_up (h : pz_H) (a : Nat) (c : pz_E) : pz_H := (va_up h.1 a (some c), h.2)
def pz_nw (h : pz_H) (c : pz_E) : pz_H := (va_up h.1 h.2 (some c), h.2 + 1)
theorem pz_up_at {h : pz_H} {a : Nat} {c : pz_E} : (pz_up h a c).1 a = some c := va_up_self _ _ _
theorem pz_up_ne {h : pz_H} {a b : Nat} {c : pz_E} (hb : b ≠ a) : (pz_up h a c).1 b = h.1 b := va_up_ne _ _ hb
theorem pz_nw_at {h : pz_H} {c : pz_E} : (pz_nw h c).1 h.2 = some c := va_up_self _ _ _
theorem pz_nw_ne {h : pz_H} {b : Nat} {c : pz_E} (hb : b ≠ h.2) : (pz_nw h c).1 b = h.1 b := va_up_ne _ _ hb
theorem pz_R.lt {X : pz_X} {h : pz_H} {H : Heap} (hR : pz_R X h H) {q : Nat} {c : pz_E} (hq : h.1 q = some c) : q < h.2 := by
  have h1 := (hR.2.2 q c hq).2.lt
  rw [hR.1] at h1
  exact h1
theorem pz_R.set {X : pz_X} {h : pz_H} {H H1 : Heap} {a : Nat} {c0 c : pz_E} (hR : pz_R X h H) (hG : h.1 a = some c0) (he : va_at X.1 vwCl (a, pz_cv X.2.1 c) H1) (z : H1.size = H.size) (oq : ∀ q : Nat, q ≠ a → H1[q]? = H[q]?) : pz_R X (pz_up h a c) H1 := by
  refine ⟨z.trans hR.1, hR.2.1, fun q c1 hq => ?_⟩
  by_cases hqa : q = a
  · subst hqa
    rw [pz_up_at] at hq
    cases hq
    exact ⟨(hR.2.2 _ _ hG).1, he⟩
  · rw [pz_up_ne hqa] at hq
    obtain ⟨h1, h2⟩ := hR.2.2 q c1 hq
    exact ⟨h1, h2.kept (oq q hqa)⟩
theorem pz_R.push {X : pz_X} {h : pz_H} {H H1 : Heap} {c : pz_E} (hR : pz_R X h H) (he : va_at X.1 vwCl (h.2, pz_cv X.2.1 c) H1) (z : H1.size = h.2 + 1) (o : ∀ q : Nat, q < h.2 → H1[q]? = H[q]?) : pz_R X (pz_nw h c) H1 := by
  refine ⟨z, Nat.le_trans hR.2.1 (Nat.le_succ _), fun q c1 hq => ?_⟩
  by_cases hqa : q = h.2
  · subst hqa
    rw [pz_nw_at] at hq
    cases hq
    exact ⟨hR.2.1, he⟩
  · rw [pz_nw_ne hqa] at hq
    obtain ⟨h1, h2⟩ := hR.2.2 q c1 hq
    exact ⟨h1, h2.kept (o q (hR.lt hq))⟩
theorem pz_kt_at (X : pz_X) {t : Nat} {ty : FieldType} (ht : pz_ty[t]? = some ty) : (pz_kt X)[t]? = some (X.2.1 t, ty) := by
  have hl : t < pz_ty.length := (List.getElem?_eq_some_iff.mp ht).1
  simp only [pz_kt, List.getElem?_map, List.getElem?_range hl, Option.map_some, List.getD_eq_getElem?_getD, ht, Option.getD_some]
theorem pz_K3 {X : pz_X} {s U : State} (hvm : s.vm.Alike U.vm) (h : ∃ kA : Class, s.vm.classes[X.2.1 3]? = some kA ∧ kA.kind = .array (X.2.1 0) (.array .int)) : ∃ kA : Class, U.vm.classes[X.2.1 3]? = some kA ∧ kA.kind = .array (X.2.1 0) (.array .int) := by
  obtain ⟨kA, h1, h2⟩ := h
  obtain ⟨k', hk', he⟩ := hvm.2.2 _ _ h1
  exact ⟨k', hk', by rw [he]; exact h2⟩
theorem pz_K.warm {X : pz_X} {s U : State} (hW : s.WarmedH U.vm) (h : pz_K X s) : pz_K X U :=
  ⟨va_K.moved hW.alike h.1, fun q hq => va_Nw.warmF hW (h.2.1 q hq), fun q hq => va_Nw.warmM hW (h.2.2.1 q hq), fun C hC => va_AO.moved hW.alike (h.2.2.2.1 C hC), pz_K3 hW.alike h.2.2.2.2⟩
theorem pz_K.same {X : pz_X} {s U : State} (hvm : s.vm = U.vm) (h : pz_K X s) : pz_K X U :=
  ⟨va_K.moved (by rw [hvm]; exact Vm.Alike.refl U.vm) h.1, fun q hq => va_Nw.same rfl hvm (h.2.1 q hq), fun q hq => va_Nw.same rfl hvm (h.2.2.1 q hq), fun C hC => va_AO.moved (by rw [hvm]; exact Vm.Alike.refl U.vm) (h.2.2.2.1 C hC), pz_K3 (by rw [hvm]; exact Vm.Alike.refl U.vm) h.2.2.2.2⟩
theorem lv_has.sub {ls : Array Slot} {n : Nat} {l l' : List (Nat × Value)} (h : lv_has ls n l) (hs : ∀ q ∈ l', q ∈ l) : lv_has ls n l' := ⟨h.1, h.2.1, fun q hq => h.2.2 q (hs q hq)⟩
/-- the locals, by their numbers -/
def pz_lk : List (Nat × Value) → Nat → Option Value
  | [], _ => none
  | q :: l, i => if q.1 = i then some q.2 else pz_lk l i
theorem pz_lk_mem : ∀ {l : List (Nat × Value)} {i : Nat} {v : Value}, pz_lk l i = some v → (i, v) ∈ l
  | [], _, _, h => by cases h
  | q :: l, i, v, h => by
    unfold pz_lk at h
    by_cases hq : q.1 = i
    · rw [if_pos hq] at h
      cases h
      rw [← hq]
      exact List.mem_cons_self
    · rw [if_neg hq] at h
      exact List.mem_cons_of_mem _ (pz_lk_mem h)
def pz_ins (i : Nat) (v : Value) : List (Nat × Value) → List (Nat × Value)
  | [] => [(i, v)]
  | q :: l => if i < q.1 then (i, v) :: q :: l else q :: pz_ins i v l
theorem pz_ins_mem {i : Nat} {v : Value} : ∀ {l : List (Nat × Value)} {q : Nat × Value}, q ∈ pz_ins i v l → q ∈ (i, v) :: l
  | [], q, h => h
  | a :: l, q, h => by
    unfold pz_ins at h
    split at h
    · exact h
    · rcases List.mem_cons.mp h with h | h
      · rw [h]; exact List.mem_cons_of_mem _ List.mem_cons_self
      · rcases List.mem_cons.mp (pz_ins_mem h) with h | h
        · rw [h]; exact List.mem_cons_self
        · exact List.mem_cons_of_mem _ (List.mem_cons_of_mem _ h)
def pz_set1 (i : Nat) (v : Value) (l : List (Nat × Value)) : List (Nat × Value) := pz_ins i v (l.filter (fun q => !(q.1 == i) && !(q.1 + 1 == i && q.2.category == 2)))
def pz_set2 (i : Nat) (v : Value) (l : List (Nat × Value)) : List (Nat × Value) := pz_ins i v (l.filter (fun q => !(q.1 == i) && (!(q.1 == i + 1) && !(q.1 + 1 == i && q.2.category == 2))))
/-- the part of the locals that is wanted further on -/
def pz_part (l : List (Nat × Value)) (l' : List (Nat × Value)) : Prop := ∀ q ∈ l', q ∈ l
theorem pz_part_of {l l' : List (Nat × Value)} (is : List Nat) (h : is.filterMap (fun i => (pz_lk l i).map (fun v => (i, v))) = l') : pz_part l l' := by
  intro q hq
  rw [← h] at hq
  obtain ⟨i, -, hi⟩ := List.mem_filterMap.mp hq
  cases hv : pz_lk l i with
  | none => rw [hv] at hi; cases hi
  | some v => rw [hv] at hi; cases hi; exact pz_lk_mem hv
section PZR
variable {Ψ : State → Prop} {X : pz_X} {M : pz_M} {d pc rc rs : Nat} {lv lv' : List (Nat × Value)} {st : List Value} {h : pz_H} {Q : Option Value → pz_H → Prop}
theorem pz_drop (hs : pz_part lv lv') (kk : pz_W Ψ X M d pc lv' st h rc rs Q) : pz_W Ψ X M d pc lv st h rc rs Q := by
  intro p l e R s m args below meth c Z H locs cells slots ls hΨ I hL
  exact kk p l e R s m args below meth c Z H locs cells slots ls hΨ I (hL.sub hs)
theorem pz_iconst {n : Int} {v : Int32} (hdg : decode M.2.1 pc = .ok (.iconst n, 1)) (hv : Int32.ofInt n = v) (kk : pz_W Ψ X M d (pc + 1) lv (.int v :: st) h rc rs Q) : pz_W Ψ X M d pc lv (st) h rc rs Q := by
  intro p l e R s m args below meth c Z H locs cells slots ls hΨ I hL
  exact lv_iconst I.1.1 I.1.2.1 hdg hv (kk p l e R s m args below meth c Z H locs cells slots ls hΨ I hL)
theorem pz_bipush {n : Int} {v : Int32} (hdg : decode M.2.1 pc = .ok (.bipush n, 2)) (hv : (Int8.ofInt n).toInt32 = v) (kk : pz_W Ψ X M d (pc + 2) lv (.int v :: st) h rc rs Q) : pz_W Ψ X M d pc lv (st) h rc rs Q := by
  intro p l e R s m args below meth c Z H locs cells slots ls hΨ I hL
  exact lv_bipush I.1.1 I.1.2.1 hdg hv (kk p l e R s m args below meth c Z H locs cells slots ls hΨ I hL)
theorem pz_sipush {n : Int} {v : Int32} (hdg : decode M.2.1 pc = .ok (.sipush n, 3)) (hv : (Int16.ofInt n).toInt32 = v) (kk : pz_W Ψ X M d (pc + 3) lv (.int v :: st) h rc rs Q) : pz_W Ψ X M d pc lv (st) h rc rs Q := by
  intro p l e R s m args below meth c Z H locs cells slots ls hΨ I hL
  exact lv_sipush I.1.1 I.1.2.1 hdg hv (kk p l e R s m args below meth c Z H locs cells slots ls hΨ I hL)
theorem pz_lconst {n : Fin 2} {v : Int64} (hdg : decode M.2.1 pc = .ok (.lconst n, 1)) (hv : Int64.ofNat (n : Nat) = v) (kk : pz_W Ψ X M d (pc + 1) lv (.long v :: st) h rc rs Q) : pz_W Ψ X M d pc lv (st) h rc rs Q := by
  intro p l e R s m args below meth c Z H locs cells slots ls hΨ I hL
  exact lv_lconst I.1.1 I.1.2.1 hdg hv (kk p l e R s m args below meth c Z H locs cells slots ls hΨ I hL)
theorem pz_null  (hdg : decode M.2.1 pc = .ok (.aconst_null, 1))  (kk : pz_W Ψ X M d (pc + 1) lv (.null :: st) h rc rs Q) : pz_W Ψ X M d pc lv (st) h rc rs Q := by
  intro p l e R s m args below meth c Z H locs cells slots ls hΨ I hL
  exact lv_null I.1.1 I.1.2.1 hdg (kk p l e R s m args below meth c Z H locs cells slots ls hΨ I hL)
theorem pz_iload_n {k : Fin 4} {x : Int32} (hdg : decode M.2.1 pc = .ok (.iload_n k, 1)) (hl : pz_lk lv (k : Nat) = some (.int x)) (kk : pz_W Ψ X M d (pc + 1) lv (.int x :: st) h rc rs Q) : pz_W Ψ X M d pc lv (st) h rc rs Q := by
  intro p l e R s m args below meth c Z H locs cells slots ls hΨ I hL
  exact lv_iload_n I.1.1 I.1.2.1 hdg rfl (hL.2.2 _ (pz_lk_mem hl)) (kk p l e R s m args below meth c Z H locs cells slots ls hΨ I hL)
theorem pz_iload {i : Nat} {x : Int32} (hdg : decode M.2.1 pc = .ok (.iload i, 2)) (hl : pz_lk lv i = some (.int x)) (kk : pz_W Ψ X M d (pc + 2) lv (.int x :: st) h rc rs Q) : pz_W Ψ X M d pc lv (st) h rc rs Q := by
  intro p l e R s m args below meth c Z H locs cells slots ls hΨ I hL
  exact lv_iload I.1.1 I.1.2.1 hdg (hL.2.2 _ (pz_lk_mem hl)) (kk p l e R s m args below meth c Z H locs cells slots ls hΨ I hL)
theorem pz_lload_n {k : Fin 4} {x : Int64} (hdg : decode M.2.1 pc = .ok (.lload_n k, 1)) (hl : pz_lk lv (k : Nat) = some (.long x)) (kk : pz_W Ψ X M d (pc + 1) lv (.long x :: st) h rc rs Q) : pz_W Ψ X M d pc lv (st) h rc rs Q := by
  intro p l e R s m args below meth c Z H locs cells slots ls hΨ I hL
  exact lv_lload_n I.1.1 I.1.2.1 hdg rfl (hL.2.2 _ (pz_lk_mem hl)) (kk p l e R s m args below meth c Z H locs cells slots ls hΨ I hL)
theorem pz_lload {i : Nat} {x : Int64} (hdg : decode M.2.1 pc = .ok (.lload i, 2)) (hl : pz_lk lv i = some (.long x)) (kk : pz_W Ψ X M d (pc + 2) lv (.long x :: st) h rc rs Q) : pz_W Ψ X M d pc lv (st) h rc rs Q := by
  intro p l e R s m args below meth c Z H locs cells slots ls hΨ I hL
  exact lv_lload I.1.1 I.1.2.1 hdg (hL.2.2 _ (pz_lk_mem hl)) (kk p l e R s m args below meth c Z H locs cells slots ls hΨ I hL)
theorem pz_aload_n {k : Fin 4} {x : Nat} (hdg : decode M.2.1 pc = .ok (.aload_n k, 1)) (hl : pz_lk lv (k : Nat) = some (.ref x)) (kk : pz_W Ψ X M d (pc + 1) lv (.ref x :: st) h rc rs Q) : pz_W Ψ X M d pc lv (st) h rc rs Q := by
  intro p l e R s m args below meth c Z H locs cells slots ls hΨ I hL
  exact lv_aload_n I.1.1 I.1.2.1 hdg rfl (hL.2.2 _ (pz_lk_mem hl)) (kk p l e R s m args below meth c Z H locs cells slots ls hΨ I hL)
theorem pz_aload {i : Nat} {x : Nat} (hdg : decode M.2.1 pc = .ok (.aload i, 2)) (hl : pz_lk lv i = some (.ref x)) (kk : pz_W Ψ X M d (pc + 2) lv (.ref x :: st) h rc rs Q) : pz_W Ψ X M d pc lv (st) h rc rs Q := by
  intro p l e R s m args below meth c Z H locs cells slots ls hΨ I hL
  exact lv_aload I.1.1 I.1.2.1 hdg (hL.2.2 _ (pz_lk_mem hl)) (kk p l e R s m args below meth c Z H locs cells slots ls hΨ I hL)
theorem pz_istore_n {k : Fin 4} {i : Nat} {x : Int32} (hdg : decode M.2.1 pc = .ok (.istore_n k, 1)) (hi : (k : Nat) = i) (hn : i < M.2.2.1) (hl : pz_set1 i (.int x) lv = lv') (kk : pz_W Ψ X M d (pc + 1) lv' st h rc rs Q) : pz_W Ψ X M d pc lv (.int x :: st) h rc rs Q := by
  intro p l e R s m args below meth c Z H locs cells slots ls hΨ I hL
  exact lv_istore_n I.1.1 I.1.2.1 hdg hi hL hn rfl (fun ls' hL' => kk p l e R s m args below meth c Z H locs cells slots ls' hΨ I (hL'.sub (fun q hq => pz_ins_mem (by rw [← hl] at hq; exact hq))))
theorem pz_istore {i : Nat} {x : Int32} (hdg : decode M.2.1 pc = .ok (.istore i, 2))  (hn : i < M.2.2.1) (hl : pz_set1 i (.int x) lv = lv') (kk : pz_W Ψ X M d (pc + 2) lv' st h rc rs Q) : pz_W Ψ X M d pc lv (.int x :: st) h rc rs Q := by
  intro p l e R s m args below meth c Z H locs cells slots ls hΨ I hL
  exact lv_istore I.1.1 I.1.2.1 hdg hL hn rfl (fun ls' hL' => kk p l e R s m args below meth c Z H locs cells slots ls' hΨ I (hL'.sub (fun q hq => pz_ins_mem (by rw [← hl] at hq; exact hq))))
theorem pz_astore_n {k : Fin 4} {i : Nat} {x : Nat} (hdg : decode M.2.1 pc = .ok (.astore_n k, 1)) (hi : (k : Nat) = i) (hn : i < M.2.2.1) (hl : pz_set1 i (.ref x) lv = lv') (kk : pz_W Ψ X M d (pc + 1) lv' st h rc rs Q) : pz_W Ψ X M d pc lv (.ref x :: st) h rc rs Q := by
  intro p l e R s m args below meth c Z H locs cells slots ls hΨ I hL
  exact lv_astore_n I.1.1 I.1.2.1 hdg hi hL hn rfl (fun ls' hL' => kk p l e R s m args below meth c Z H locs cells slots ls' hΨ I (hL'.sub (fun q hq => pz_ins_mem (by rw [← hl] at hq; exact hq))))
theorem pz_astore {i : Nat} {x : Nat} (hdg : decode M.2.1 pc = .ok (.astore i, 2))  (hn : i < M.2.2.1) (hl : pz_set1 i (.ref x) lv = lv') (kk : pz_W Ψ X M d (pc + 2) lv' st h rc rs Q) : pz_W Ψ X M d pc lv (.ref x :: st) h rc rs Q := by
  intro p l e R s m args below meth c Z H locs cells slots ls hΨ I hL
  exact lv_astore I.1.1 I.1.2.1 hdg hL hn rfl (fun ls' hL' => kk p l e R s m args below meth c Z H locs cells slots ls' hΨ I (hL'.sub (fun q hq => pz_ins_mem (by rw [← hl] at hq; exact hq))))
theorem pz_lstore_n {k : Fin 4} {i : Nat} {x : Int64} (hdg : decode M.2.1 pc = .ok (.lstore_n k, 1)) (hi : (k : Nat) = i) (hn : i + 1 < M.2.2.1) (hl : pz_set2 i (.long x) lv = lv') (kk : pz_W Ψ X M d (pc + 1) lv' st h rc rs Q) : pz_W Ψ X M d pc lv (.long x :: st) h rc rs Q := by
  intro p l e R s m args below meth c Z H locs cells slots ls hΨ I hL
  exact lv_lstore_n I.1.1 I.1.2.1 hdg hi hL hn rfl (fun ls' hL' => kk p l e R s m args below meth c Z H locs cells slots ls' hΨ I (hL'.sub (fun q hq => pz_ins_mem (by rw [← hl] at hq; exact hq))))
theorem pz_lstore {i : Nat} {x : Int64} (hdg : decode M.2.1 pc = .ok (.lstore i, 2))  (hn : i + 1 < M.2.2.1) (hl : pz_set2 i (.long x) lv = lv') (kk : pz_W Ψ X M d (pc + 2) lv' st h rc rs Q) : pz_W Ψ X M d pc lv (.long x :: st) h rc rs Q := by
  intro p l e R s m args below meth c Z H locs cells slots ls hΨ I hL
  exact lv_lstore I.1.1 I.1.2.1 hdg hL hn rfl (fun ls' hL' => kk p l e R s m args below meth c Z H locs cells slots ls' hΨ I (hL'.sub (fun q hq => pz_ins_mem (by rw [← hl] at hq; exact hq))))
theorem pz_iinc {i : Nat} {n : Int} {x v : Int32} (hdg : decode M.2.1 pc = .ok (.iinc i n, 3)) (hk : pz_lk lv i = some (.int x)) (hv : x + Int32.ofInt n = v) (hn : i < M.2.2.1) (hl : pz_set1 i (.int v) lv = lv') (kk : pz_W Ψ X M d (pc + 3) lv' st h rc rs Q) : pz_W Ψ X M d pc lv st h rc rs Q := by
  intro p l e R s m args below meth c Z H locs cells slots ls hΨ I hL
  obtain ⟨k, hk2⟩ := List.getElem?_of_mem (pz_lk_mem hk)
  exact lv_iinc (k := k) I.1.1 I.1.2.1 hdg hL hk2 hv hn rfl (fun ls' hL' => kk p l e R s m args below meth c Z H locs cells slots ls' hΨ I (hL'.sub (fun q hq => pz_ins_mem (by rw [← hl] at hq; exact hq))))
theorem pz_iadd {x y : Int32} (hdg : decode M.2.1 pc = .ok (.iadd, 1))  (kk : pz_W Ψ X M d (pc + 1) lv (.int (x + y) :: st) h rc rs Q) : pz_W Ψ X M d pc lv (.int y :: .int x :: st) h rc rs Q := by
  intro p l e R s m args below meth c Z H locs cells slots ls hΨ I hL
  exact lv_iadd I.1.1 I.1.2.1 hdg (kk p l e R s m args below meth c Z H locs cells slots ls hΨ I hL)
theorem pz_isub {x y : Int32} (hdg : decode M.2.1 pc = .ok (.isub, 1))  (kk : pz_W Ψ X M d (pc + 1) lv (.int (x - y) :: st) h rc rs Q) : pz_W Ψ X M d pc lv (.int y :: .int x :: st) h rc rs Q := by
  intro p l e R s m args below meth c Z H locs cells slots ls hΨ I hL
  exact lv_isub I.1.1 I.1.2.1 hdg (kk p l e R s m args below meth c Z H locs cells slots ls hΨ I hL)
theorem pz_imul {x y : Int32} (hdg : decode M.2.1 pc = .ok (.imul, 1))  (kk : pz_W Ψ X M d (pc + 1) lv (.int (x * y) :: st) h rc rs Q) : pz_W Ψ X M d pc lv (.int y :: .int x :: st) h rc rs Q := by
  intro p l e R s m args below meth c Z H locs cells slots ls hΨ I hL
  exact lv_imul I.1.1 I.1.2.1 hdg (kk p l e R s m args below meth c Z H locs cells slots ls hΨ I hL)
theorem pz_iand {x y : Int32} (hdg : decode M.2.1 pc = .ok (.iand, 1))  (kk : pz_W Ψ X M d (pc + 1) lv (.int (x &&& y) :: st) h rc rs Q) : pz_W Ψ X M d pc lv (.int y :: .int x :: st) h rc rs Q := by
  intro p l e R s m args below meth c Z H locs cells slots ls hΨ I hL
  exact lv_iand I.1.1 I.1.2.1 hdg (kk p l e R s m args below meth c Z H locs cells slots ls hΨ I hL)
theorem pz_ior {x y : Int32} (hdg : decode M.2.1 pc = .ok (.ior, 1))  (kk : pz_W Ψ X M d (pc + 1) lv (.int (x ||| y) :: st) h rc rs Q) : pz_W Ψ X M d pc lv (.int y :: .int x :: st) h rc rs Q := by
  intro p l e R s m args below meth c Z H locs cells slots ls hΨ I hL
  exact lv_ior I.1.1 I.1.2.1 hdg (kk p l e R s m args below meth c Z H locs cells slots ls hΨ I hL)
theorem pz_ixor {x y : Int32} (hdg : decode M.2.1 pc = .ok (.ixor, 1))  (kk : pz_W Ψ X M d (pc + 1) lv (.int (x ^^^ y) :: st) h rc rs Q) : pz_W Ψ X M d pc lv (.int y :: .int x :: st) h rc rs Q := by
  intro p l e R s m args below meth c Z H locs cells slots ls hΨ I hL
  exact lv_ixor I.1.1 I.1.2.1 hdg (kk p l e R s m args below meth c Z H locs cells slots ls hΨ I hL)
theorem pz_ishl {x y : Int32} (hdg : decode M.2.1 pc = .ok (.ishl, 1))  (kk : pz_W Ψ X M d (pc + 1) lv (.int (x <<< (y &&& 31)) :: st) h rc rs Q) : pz_W Ψ X M d pc lv (.int y :: .int x :: st) h rc rs Q := by
  intro p l e R s m args below meth c Z H locs cells slots ls hΨ I hL
  exact lv_ishl I.1.1 I.1.2.1 hdg (kk p l e R s m args below meth c Z H locs cells slots ls hΨ I hL)
theorem pz_ishr {x y : Int32} (hdg : decode M.2.1 pc = .ok (.ishr, 1))  (kk : pz_W Ψ X M d (pc + 1) lv (.int (x >>> (y &&& 31)) :: st) h rc rs Q) : pz_W Ψ X M d pc lv (.int y :: .int x :: st) h rc rs Q := by
  intro p l e R s m args below meth c Z H locs cells slots ls hΨ I hL
  exact lv_ishr I.1.1 I.1.2.1 hdg (kk p l e R s m args below meth c Z H locs cells slots ls hΨ I hL)
theorem pz_iushr {x y v : Int32} (hdg : decode M.2.1 pc = .ok (.iushr, 1)) (hv : (x.toUInt32 >>> (y.toUInt32 &&& Int32.toUInt32 31)).toInt32 = v) (kk : pz_W Ψ X M d (pc + 1) lv (.int v :: st) h rc rs Q) : pz_W Ψ X M d pc lv (.int y :: .int x :: st) h rc rs Q := by
  intro p l e R s m args below meth c Z H locs cells slots ls hΨ I hL
  exact lv_iushr I.1.1 I.1.2.1 hdg hv (kk p l e R s m args below meth c Z H locs cells slots ls hΨ I hL)
theorem pz_idiv {x y : Int32} (hdg : decode M.2.1 pc = .ok (.idiv, 1)) (hne : ¬ y = 0) (kk : pz_W Ψ X M d (pc + 1) lv (.int (x / y) :: st) h rc rs Q) : pz_W Ψ X M d pc lv (.int y :: .int x :: st) h rc rs Q := by
  intro p l e R s m args below meth c Z H locs cells slots ls hΨ I hL
  exact lv_idiv I.1.1 I.1.2.1 hdg hne (kk p l e R s m args below meth c Z H locs cells slots ls hΨ I hL)
theorem pz_irem {x y : Int32} (hdg : decode M.2.1 pc = .ok (.irem, 1)) (hne : ¬ y = 0) (kk : pz_W Ψ X M d (pc + 1) lv (.int (x - x / y * y) :: st) h rc rs Q) : pz_W Ψ X M d pc lv (.int y :: .int x :: st) h rc rs Q := by
  intro p l e R s m args below meth c Z H locs cells slots ls hΨ I hL
  exact lv_irem I.1.1 I.1.2.1 hdg hne (kk p l e R s m args below meth c Z H locs cells slots ls hΨ I hL)
theorem pz_ineg {x : Int32} (hdg : decode M.2.1 pc = .ok (.ineg, 1))  (kk : pz_W Ψ X M d (pc + 1) lv (.int (-x) :: st) h rc rs Q) : pz_W Ψ X M d pc lv (.int x :: st) h rc rs Q := by
  intro p l e R s m args below meth c Z H locs cells slots ls hΨ I hL
  exact lv_ineg I.1.1 I.1.2.1 hdg (kk p l e R s m args below meth c Z H locs cells slots ls hΨ I hL)
theorem pz_ladd {x y : Int64} (hdg : decode M.2.1 pc = .ok (.ladd, 1))  (kk : pz_W Ψ X M d (pc + 1) lv (.long (x + y) :: st) h rc rs Q) : pz_W Ψ X M d pc lv (.long y :: .long x :: st) h rc rs Q := by
  intro p l e R s m args below meth c Z H locs cells slots ls hΨ I hL
  exact lv_ladd I.1.1 I.1.2.1 hdg (kk p l e R s m args below meth c Z H locs cells slots ls hΨ I hL)
theorem pz_lsub {x y : Int64} (hdg : decode M.2.1 pc = .ok (.lsub, 1))  (kk : pz_W Ψ X M d (pc + 1) lv (.long (x - y) :: st) h rc rs Q) : pz_W Ψ X M d pc lv (.long y :: .long x :: st) h rc rs Q := by
  intro p l e R s m args below meth c Z H locs cells slots ls hΨ I hL
  exact lv_lsub I.1.1 I.1.2.1 hdg (kk p l e R s m args below meth c Z H locs cells slots ls hΨ I hL)
theorem pz_lmul {x y : Int64} (hdg : decode M.2.1 pc = .ok (.lmul, 1))  (kk : pz_W Ψ X M d (pc + 1) lv (.long (x * y) :: st) h rc rs Q) : pz_W Ψ X M d pc lv (.long y :: .long x :: st) h rc rs Q := by
  intro p l e R s m args below meth c Z H locs cells slots ls hΨ I hL
  exact lv_lmul I.1.1 I.1.2.1 hdg (kk p l e R s m args below meth c Z H locs cells slots ls hΨ I hL)
theorem pz_land {x y : Int64} (hdg : decode M.2.1 pc = .ok (.land, 1))  (kk : pz_W Ψ X M d (pc + 1) lv (.long (x &&& y) :: st) h rc rs Q) : pz_W Ψ X M d pc lv (.long y :: .long x :: st) h rc rs Q := by
  intro p l e R s m args below meth c Z H locs cells slots ls hΨ I hL
  exact lv_land I.1.1 I.1.2.1 hdg (kk p l e R s m args below meth c Z H locs cells slots ls hΨ I hL)
theorem pz_lor {x y : Int64} (hdg : decode M.2.1 pc = .ok (.lor, 1))  (kk : pz_W Ψ X M d (pc + 1) lv (.long (x ||| y) :: st) h rc rs Q) : pz_W Ψ X M d pc lv (.long y :: .long x :: st) h rc rs Q := by
  intro p l e R s m args below meth c Z H locs cells slots ls hΨ I hL
  exact lv_lor I.1.1 I.1.2.1 hdg (kk p l e R s m args below meth c Z H locs cells slots ls hΨ I hL)
theorem pz_lxor {x y : Int64} (hdg : decode M.2.1 pc = .ok (.lxor, 1))  (kk : pz_W Ψ X M d (pc + 1) lv (.long (x ^^^ y) :: st) h rc rs Q) : pz_W Ψ X M d pc lv (.long y :: .long x :: st) h rc rs Q := by
  intro p l e R s m args below meth c Z H locs cells slots ls hΨ I hL
  exact lv_lxor I.1.1 I.1.2.1 hdg (kk p l e R s m args below meth c Z H locs cells slots ls hΨ I hL)
theorem pz_ldiv {x y : Int64} (hdg : decode M.2.1 pc = .ok (.ldiv, 1)) (hne : ¬ y = 0) (kk : pz_W Ψ X M d (pc + 1) lv (.long (x / y) :: st) h rc rs Q) : pz_W Ψ X M d pc lv (.long y :: .long x :: st) h rc rs Q := by
  intro p l e R s m args below meth c Z H locs cells slots ls hΨ I hL
  exact lv_ldiv I.1.1 I.1.2.1 hdg hne (kk p l e R s m args below meth c Z H locs cells slots ls hΨ I hL)
theorem pz_lrem {x y : Int64} (hdg : decode M.2.1 pc = .ok (.lrem, 1)) (hne : ¬ y = 0) (kk : pz_W Ψ X M d (pc + 1) lv (.long (x - x / y * y) :: st) h rc rs Q) : pz_W Ψ X M d pc lv (.long y :: .long x :: st) h rc rs Q := by
  intro p l e R s m args below meth c Z H locs cells slots ls hΨ I hL
  exact lv_lrem I.1.1 I.1.2.1 hdg hne (kk p l e R s m args below meth c Z H locs cells slots ls hΨ I hL)
theorem pz_lshl {x v : Int64} {y : Int32} (hdg : decode M.2.1 pc = .ok (.lshl, 1)) (hv : x <<< (y.toInt64 &&& 63) = v) (kk : pz_W Ψ X M d (pc + 1) lv (.long v :: st) h rc rs Q) : pz_W Ψ X M d pc lv (.int y :: .long x :: st) h rc rs Q := by
  intro p l e R s m args below meth c Z H locs cells slots ls hΨ I hL
  exact lv_lshl I.1.1 I.1.2.1 hdg hv (kk p l e R s m args below meth c Z H locs cells slots ls hΨ I hL)
theorem pz_lshr {x v : Int64} {y : Int32} (hdg : decode M.2.1 pc = .ok (.lshr, 1)) (hv : x >>> (y.toInt64 &&& 63) = v) (kk : pz_W Ψ X M d (pc + 1) lv (.long v :: st) h rc rs Q) : pz_W Ψ X M d pc lv (.int y :: .long x :: st) h rc rs Q := by
  intro p l e R s m args below meth c Z H locs cells slots ls hΨ I hL
  exact lv_lshr I.1.1 I.1.2.1 hdg hv (kk p l e R s m args below meth c Z H locs cells slots ls hΨ I hL)
theorem pz_lcmp {x y : Int64} (hdg : decode M.2.1 pc = .ok (.lcmp, 1))  (kk : pz_W Ψ X M d (pc + 1) lv (.int (lg_cmp x y) :: st) h rc rs Q) : pz_W Ψ X M d pc lv (.long y :: .long x :: st) h rc rs Q := by
  intro p l e R s m args below meth c Z H locs cells slots ls hΨ I hL
  exact W.lcmp I.1.1 I.1.2.1 hdg (kk p l e R s m args below meth c Z H locs cells slots ls hΨ I hL)
theorem pz_i2l {x : Int32} (hdg : decode M.2.1 pc = .ok (.i2l, 1))  (kk : pz_W Ψ X M d (pc + 1) lv (.long x.toInt64 :: st) h rc rs Q) : pz_W Ψ X M d pc lv (.int x :: st) h rc rs Q := by
  intro p l e R s m args below meth c Z H locs cells slots ls hΨ I hL
  exact lv_i2l I.1.1 I.1.2.1 hdg rfl (kk p l e R s m args below meth c Z H locs cells slots ls hΨ I hL)
theorem pz_l2i {x : Int64} (hdg : decode M.2.1 pc = .ok (.l2i, 1))  (kk : pz_W Ψ X M d (pc + 1) lv (.int x.toInt32 :: st) h rc rs Q) : pz_W Ψ X M d pc lv (.long x :: st) h rc rs Q := by
  intro p l e R s m args below meth c Z H locs cells slots ls hΨ I hL
  exact lv_l2i I.1.1 I.1.2.1 hdg rfl (kk p l e R s m args below meth c Z H locs cells slots ls hΨ I hL)
theorem pz_dup {va : Value} (hdg : decode M.2.1 pc = .ok (.dup, 1)) (hva : va.category = 1) (kk : pz_W Ψ X M d (pc + 1) lv (va :: va :: st) h rc rs Q) : pz_W Ψ X M d pc lv (va :: st) h rc rs Q := by
  intro p l e R s m args below meth c Z H locs cells slots ls hΨ I hL
  exact lv_dup I.1.1 I.1.2.1 hdg hva (kk p l e R s m args below meth c Z H locs cells slots ls hΨ I hL)
theorem pz_pop {va : Value} (hdg : decode M.2.1 pc = .ok (.pop, 1)) (hva : va.category = 1) (kk : pz_W Ψ X M d (pc + 1) lv (st) h rc rs Q) : pz_W Ψ X M d pc lv (va :: st) h rc rs Q := by
  intro p l e R s m args below meth c Z H locs cells slots ls hΨ I hL
  exact lv_pop I.1.1 I.1.2.1 hdg hva (kk p l e R s m args below meth c Z H locs cells slots ls hΨ I hL)
theorem pz_dup_x1 {va vb : Value} (hdg : decode M.2.1 pc = .ok (.dup_x1, 1)) (hva : va.category = 1) (hvb : vb.category = 1) (kk : pz_W Ψ X M d (pc + 1) lv (va :: vb :: va :: st) h rc rs Q) : pz_W Ψ X M d pc lv (va :: vb :: st) h rc rs Q := by
  intro p l e R s m args below meth c Z H locs cells slots ls hΨ I hL
  exact lv_dup_x1 I.1.1 I.1.2.1 hdg hva hvb (kk p l e R s m args below meth c Z H locs cells slots ls hΨ I hL)
theorem pz_dup_x2 {va vb vd : Value} (hdg : decode M.2.1 pc = .ok (.dup_x2, 1)) (hva : va.category = 1) (hvb : vb.category = 1) (hvd : vd.category = 1) (kk : pz_W Ψ X M d (pc + 1) lv (va :: vb :: vd :: va :: st) h rc rs Q) : pz_W Ψ X M d pc lv (va :: vb :: vd :: st) h rc rs Q := by
  intro p l e R s m args below meth c Z H locs cells slots ls hΨ I hL
  exact lv_dup_x2 I.1.1 I.1.2.1 hdg hva hvb hvd (kk p l e R s m args below meth c Z H locs cells slots ls hΨ I hL)
theorem pz_dup2 {va vb : Value} (hdg : decode M.2.1 pc = .ok (.dup2, 1)) (hva : va.category = 1) (hvb : vb.category = 1) (kk : pz_W Ψ X M d (pc + 1) lv (va :: vb :: va :: vb :: st) h rc rs Q) : pz_W Ψ X M d pc lv (va :: vb :: st) h rc rs Q := by
  intro p l e R s m args below meth c Z H locs cells slots ls hΨ I hL
  exact lv_dup2_11 I.1.1 I.1.2.1 hdg hva hvb (kk p l e R s m args below meth c Z H locs cells slots ls hΨ I hL)
theorem pz_if_eq {x : Int32} {off : Int} {tgt : Nat} (hdg : decode M.2.1 pc = .ok (.ifCond .eq off, 3)) (ht : (pc : Int) + off = (tgt : Int)) (kt : x = 0 → pz_W Ψ X M d tgt lv st h rc rs Q) (kf : ¬ x = 0 → pz_W Ψ X M d (pc + 3) lv st h rc rs Q) : pz_W Ψ X M d pc lv (.int x :: st) h rc rs Q := by
  intro p l e R s m args below meth c Z H locs cells slots ls hΨ I hL
  exact lv_if_eq I.1.1 I.1.2.1 hdg ht (fun z => kt z p l e R s m args below meth c Z H locs cells slots ls hΨ I hL) (fun z => kf z p l e R s m args below meth c Z H locs cells slots ls hΨ I hL)
theorem pz_icmp_eq {x y : Int32} {off : Int} {tgt : Nat} (hdg : decode M.2.1 pc = .ok (.if_icmp .eq off, 3)) (ht : (pc : Int) + off = (tgt : Int)) (kt : x = y → pz_W Ψ X M d tgt lv st h rc rs Q) (kf : ¬ x = y → pz_W Ψ X M d (pc + 3) lv st h rc rs Q) : pz_W Ψ X M d pc lv (.int y :: .int x :: st) h rc rs Q := by
  intro p l e R s m args below meth c Z H locs cells slots ls hΨ I hL
  exact lv_icmp_eq I.1.1 I.1.2.1 hdg ht (fun z => kt z p l e R s m args below meth c Z H locs cells slots ls hΨ I hL) (fun z => kf z p l e R s m args below meth c Z H locs cells slots ls hΨ I hL)
theorem pz_if_ne {x : Int32} {off : Int} {tgt : Nat} (hdg : decode M.2.1 pc = .ok (.ifCond .ne off, 3)) (ht : (pc : Int) + off = (tgt : Int)) (kt : ¬ x = 0 → pz_W Ψ X M d tgt lv st h rc rs Q) (kf : x = 0 → pz_W Ψ X M d (pc + 3) lv st h rc rs Q) : pz_W Ψ X M d pc lv (.int x :: st) h rc rs Q := by
  intro p l e R s m args below meth c Z H locs cells slots ls hΨ I hL
  exact lv_if_ne I.1.1 I.1.2.1 hdg ht (fun z => kt z p l e R s m args below meth c Z H locs cells slots ls hΨ I hL) (fun z => kf z p l e R s m args below meth c Z H locs cells slots ls hΨ I hL)
theorem pz_icmp_ne {x y : Int32} {off : Int} {tgt : Nat} (hdg : decode M.2.1 pc = .ok (.if_icmp .ne off, 3)) (ht : (pc : Int) + off = (tgt : Int)) (kt : ¬ x = y → pz_W Ψ X M d tgt lv st h rc rs Q) (kf : x = y → pz_W Ψ X M d (pc + 3) lv st h rc rs Q) : pz_W Ψ X M d pc lv (.int y :: .int x :: st) h rc rs Q := by
  intro p l e R s m args below meth c Z H locs cells slots ls hΨ I hL
  exact lv_icmp_ne I.1.1 I.1.2.1 hdg ht (fun z => kt z p l e R s m args below meth c Z H locs cells slots ls hΨ I hL) (fun z => kf z p l e R s m args below meth c Z H locs cells slots ls hΨ I hL)
theorem pz_if_lt {x : Int32} {off : Int} {tgt : Nat} (hdg : decode M.2.1 pc = .ok (.ifCond .lt off, 3)) (ht : (pc : Int) + off = (tgt : Int)) (kt : x < 0 → pz_W Ψ X M d tgt lv st h rc rs Q) (kf : ¬ x < 0 → pz_W Ψ X M d (pc + 3) lv st h rc rs Q) : pz_W Ψ X M d pc lv (.int x :: st) h rc rs Q := by
  intro p l e R s m args below meth c Z H locs cells slots ls hΨ I hL
  exact lv_if_lt I.1.1 I.1.2.1 hdg ht (fun z => kt z p l e R s m args below meth c Z H locs cells slots ls hΨ I hL) (fun z => kf z p l e R s m args below meth c Z H locs cells slots ls hΨ I hL)
theorem pz_icmp_lt {x y : Int32} {off : Int} {tgt : Nat} (hdg : decode M.2.1 pc = .ok (.if_icmp .lt off, 3)) (ht : (pc : Int) + off = (tgt : Int)) (kt : x < y → pz_W Ψ X M d tgt lv st h rc rs Q) (kf : ¬ x < y → pz_W Ψ X M d (pc + 3) lv st h rc rs Q) : pz_W Ψ X M d pc lv (.int y :: .int x :: st) h rc rs Q := by
  intro p l e R s m args below meth c Z H locs cells slots ls hΨ I hL
  exact lv_icmp_lt I.1.1 I.1.2.1 hdg ht (fun z => kt z p l e R s m args below meth c Z H locs cells slots ls hΨ I hL) (fun z => kf z p l e R s m args below meth c Z H locs cells slots ls hΨ I hL)
theorem pz_if_ge {x : Int32} {off : Int} {tgt : Nat} (hdg : decode M.2.1 pc = .ok (.ifCond .ge off, 3)) (ht : (pc : Int) + off = (tgt : Int)) (kt : 0 ≤ x → pz_W Ψ X M d tgt lv st h rc rs Q) (kf : ¬ 0 ≤ x → pz_W Ψ X M d (pc + 3) lv st h rc rs Q) : pz_W Ψ X M d pc lv (.int x :: st) h rc rs Q := by
  intro p l e R s m args below meth c Z H locs cells slots ls hΨ I hL
  exact lv_if_ge I.1.1 I.1.2.1 hdg ht (fun z => kt z p l e R s m args below meth c Z H locs cells slots ls hΨ I hL) (fun z => kf z p l e R s m args below meth c Z H locs cells slots ls hΨ I hL)
theorem pz_icmp_ge {x y : Int32} {off : Int} {tgt : Nat} (hdg : decode M.2.1 pc = .ok (.if_icmp .ge off, 3)) (ht : (pc : Int) + off = (tgt : Int)) (kt : y ≤ x → pz_W Ψ X M d tgt lv st h rc rs Q) (kf : ¬ y ≤ x → pz_W Ψ X M d (pc + 3) lv st h rc rs Q) : pz_W Ψ X M d pc lv (.int y :: .int x :: st) h rc rs Q := by
  intro p l e R s m args below meth c Z H locs cells slots ls hΨ I hL
  exact lv_icmp_ge I.1.1 I.1.2.1 hdg ht (fun z => kt z p l e R s m args below meth c Z H locs cells slots ls hΨ I hL) (fun z => kf z p l e R s m args below meth c Z H locs cells slots ls hΨ I hL)
theorem pz_if_gt {x : Int32} {off : Int} {tgt : Nat} (hdg : decode M.2.1 pc = .ok (.ifCond .gt off, 3)) (ht : (pc : Int) + off = (tgt : Int)) (kt : 0 < x → pz_W Ψ X M d tgt lv st h rc rs Q) (kf : ¬ 0 < x → pz_W Ψ X M d (pc + 3) lv st h rc rs Q) : pz_W Ψ X M d pc lv (.int x :: st) h rc rs Q := by
  intro p l e R s m args below meth c Z H locs cells slots ls hΨ I hL
  exact lv_if_gt I.1.1 I.1.2.1 hdg ht (fun z => kt z p l e R s m args below meth c Z H locs cells slots ls hΨ I hL) (fun z => kf z p l e R s m args below meth c Z H locs cells slots ls hΨ I hL)
theorem pz_icmp_gt {x y : Int32} {off : Int} {tgt : Nat} (hdg : decode M.2.1 pc = .ok (.if_icmp .gt off, 3)) (ht : (pc : Int) + off = (tgt : Int)) (kt : y < x → pz_W Ψ X M d tgt lv st h rc rs Q) (kf : ¬ y < x → pz_W Ψ X M d (pc + 3) lv st h rc rs Q) : pz_W Ψ X M d pc lv (.int y :: .int x :: st) h rc rs Q := by
  intro p l e R s m args below meth c Z H locs cells slots ls hΨ I hL
  exact lv_icmp_gt I.1.1 I.1.2.1 hdg ht (fun z => kt z p l e R s m args below meth c Z H locs cells slots ls hΨ I hL) (fun z => kf z p l e R s m args below meth c Z H locs cells slots ls hΨ I hL)
theorem pz_if_le {x : Int32} {off : Int} {tgt : Nat} (hdg : decode M.2.1 pc = .ok (.ifCond .le off, 3)) (ht : (pc : Int) + off = (tgt : Int)) (kt : x ≤ 0 → pz_W Ψ X M d tgt lv st h rc rs Q) (kf : ¬ x ≤ 0 → pz_W Ψ X M d (pc + 3) lv st h rc rs Q) : pz_W Ψ X M d pc lv (.int x :: st) h rc rs Q := by
  intro p l e R s m args below meth c Z H locs cells slots ls hΨ I hL
  exact lv_if_le I.1.1 I.1.2.1 hdg ht (fun z => kt z p l e R s m args below meth c Z H locs cells slots ls hΨ I hL) (fun z => kf z p l e R s m args below meth c Z H locs cells slots ls hΨ I hL)
theorem pz_icmp_le {x y : Int32} {off : Int} {tgt : Nat} (hdg : decode M.2.1 pc = .ok (.if_icmp .le off, 3)) (ht : (pc : Int) + off = (tgt : Int)) (kt : x ≤ y → pz_W Ψ X M d tgt lv st h rc rs Q) (kf : ¬ x ≤ y → pz_W Ψ X M d (pc + 3) lv st h rc rs Q) : pz_W Ψ X M d pc lv (.int y :: .int x :: st) h rc rs Q := by
  intro p l e R s m args below meth c Z H locs cells slots ls hΨ I hL
  exact lv_icmp_le I.1.1 I.1.2.1 hdg ht (fun z => kt z p l e R s m args below meth c Z H locs cells slots ls hΨ I hL) (fun z => kf z p l e R s m args below meth c Z H locs cells slots ls hΨ I hL)
theorem pz_goto {off : Int} {tgt : Nat} (hdg : decode M.2.1 pc = .ok (.goto off, 3)) (ht : (pc : Int) + off = (tgt : Int)) (kk : pz_W Ψ X M d tgt lv st h rc rs Q) : pz_W Ψ X M d pc lv st h rc rs Q := by
  intro p l e R s m args below meth c Z H locs cells slots ls hΨ I hL
  exact lv_goto I.1.1 I.1.2.1 hdg ht (kk p l e R s m args below meth c Z H locs cells slots ls hΨ I hL)
theorem pz_ifnull {x : Nat} {off : Int} (hdg : decode M.2.1 pc = .ok (.ifnull off, 3)) (kk : pz_W Ψ X M d (pc + 3) lv st h rc rs Q) : pz_W Ψ X M d pc lv (.ref x :: st) h rc rs Q := by
  intro p l e R s m args below meth c Z H locs cells slots ls hΨ I hL
  exact lv_ifnull I.1.1 I.1.2.1 hdg (kk p l e R s m args below meth c Z H locs cells slots ls hΨ I hL)
theorem pz_ifnullN {off : Int} {tgt : Nat} (hdg : decode M.2.1 pc = .ok (.ifnull off, 3)) (ht : (pc : Int) + off = (tgt : Int)) (kk : pz_W Ψ X M d tgt lv st h rc rs Q) : pz_W Ψ X M d pc lv (.null :: st) h rc rs Q := by
  intro p l e R s m args below meth c Z H locs cells slots ls hΨ I hL
  exact lv_ifnullN I.1.1 I.1.2.1 hdg ht (kk p l e R s m args below meth c Z H locs cells slots ls hΨ I hL)
theorem pz_ifnonnull {x : Nat} {off : Int} {tgt : Nat} (hdg : decode M.2.1 pc = .ok (.ifnonnull off, 3)) (ht : (pc : Int) + off = (tgt : Int)) (kk : pz_W Ψ X M d tgt lv st h rc rs Q) : pz_W Ψ X M d pc lv (.ref x :: st) h rc rs Q := by
  intro p l e R s m args below meth c Z H locs cells slots ls hΨ I hL
  exact lv_ifnonnull I.1.1 I.1.2.1 hdg ht (kk p l e R s m args below meth c Z H locs cells slots ls hΨ I hL)
theorem pz_ifnonnullN {off : Int} (hdg : decode M.2.1 pc = .ok (.ifnonnull off, 3)) (kk : pz_W Ψ X M d (pc + 3) lv st h rc rs Q) : pz_W Ψ X M d pc lv (.null :: st) h rc rs Q := by
  intro p l e R s m args below meth c Z H locs cells slots ls hΨ I hL
  exact lv_ifnonnullN I.1.1 I.1.2.1 hdg (kk p l e R s m args below meth c Z H locs cells slots ls hΨ I hL)
theorem pz_tableIn {dflt lo hi : Int} {offs : Array Int} {len : Nat} {x : Int32} {off : Int} {tgt : Nat} (hdg : decode M.2.1 pc = .ok (.tableswitch dflt lo hi offs, len)) (h1 : ¬ x.toInt < lo) (h2 : ¬ hi < x.toInt) (ho : offs[(x.toInt - lo).toNat]? = some off) (ht : (pc : Int) + off = (tgt : Int)) (kk : pz_W Ψ X M d tgt lv st h rc rs Q) : pz_W Ψ X M d pc lv (.int x :: st) h rc rs Q := by
  intro p l e R s m args below meth c Z H locs cells slots ls hΨ I hL
  exact lv_tableIn I.1.1 I.1.2.1 hdg h1 h2 ho ht (kk p l e R s m args below meth c Z H locs cells slots ls hΨ I hL)
theorem pz_tableOut {dflt lo hi : Int} {offs : Array Int} {len : Nat} {x : Int32} {tgt : Nat} (hdg : decode M.2.1 pc = .ok (.tableswitch dflt lo hi offs, len)) (hx : x.toInt < lo ∨ hi < x.toInt) (ht : (pc : Int) + dflt = (tgt : Int)) (kk : pz_W Ψ X M d tgt lv st h rc rs Q) : pz_W Ψ X M d pc lv (.int x :: st) h rc rs Q := by
  intro p l e R s m args below meth c Z H locs cells slots ls hΨ I hL
  exact lv_tableOut I.1.1 I.1.2.1 hdg hx ht (kk p l e R s m args below meth c Z H locs cells slots ls hΨ I hL)
theorem pz_ldc {index : Nat} {v : Int32} (hdg : decode M.2.1 pc = .ok (.ldc index, 2)) (hw : Jvm.Cond.constant M.1.cls index v ∈ pz_U) (kk : pz_W Ψ X M d (pc + 2) lv (.int v :: st) h rc rs Q) : pz_W Ψ X M d pc lv st h rc rs Q := by
  intro p l e R s m args below meth c Z H locs cells slots ls hΨ I hL
  exact lv_ldc I.1.1 I.1.2.1 I.1.2.2.2.1 (I.1.2.2.2.2.1 _ hw) hdg (kk p l e R s m args below meth c Z H locs cells slots ls hΨ I hL)
theorem pz_ret {r : Option Value} (hr : pz_rt M pc r) (hq : Q r h) : pz_W Ψ X M d pc lv (r.toList) h rc rs Q := by
  intro p l e R s m args below meth c Z H locs cells slots ls hΨ I hL
  obtain ⟨hC, hB, hZ, hR, hS, hc, hs⟩ := I
  exact W.widen (by omega) (by omega) (hZ r h H locs pc ls hq hR hS hr)
theorem pz_ireturn {v : Int32} {ty : FieldType} (hdg : decode M.2.1 pc = .ok (.ireturn, 1)) (ht : M.2.2.2 = some ty) (hn : narrow ty (.int v) = .int v) (hq : Q (some (.int v)) h) : pz_W Ψ X M d pc lv [.int v] h rc rs Q := pz_ret (r := some (.int v)) ⟨ty, ht, hn, hdg⟩ hq
theorem pz_lreturn {v : Int64} (hdg : decode M.2.1 pc = .ok (.lreturn, 1)) (ht : M.2.2.2 = some .long) (hq : Q (some (.long v)) h) : pz_W Ψ X M d pc lv [.long v] h rc rs Q := pz_ret (r := some (.long v)) ⟨ht, hdg⟩ hq
theorem pz_return (hdg : decode M.2.1 pc = .ok (.return_, 1)) (ht : M.2.2.2 = none) (hq : Q none h) : pz_W Ψ X M d pc lv [] h rc rs Q := pz_ret (r := none) ⟨ht, hdg⟩ hq
theorem pz_areturn {a : Nat} {C : String} (hdg : decode M.2.1 pc = .ok (.areturn, 1)) (ht : M.2.2.2 = some (.object C)) (hq : Q (some (.ref a)) h) : pz_W Ψ X M d pc lv [.ref a] h rc rs Q := pz_ret (r := some (.ref a)) ⟨⟨_, ht, Or.inl ⟨C, rfl⟩⟩, hdg⟩ hq
theorem pz_areturnN {C : String} (hdg : decode M.2.1 pc = .ok (.areturn, 1)) (ht : M.2.2.2 = some (.object C)) (hq : Q (some .null) h) : pz_W Ψ X M d pc lv [.null] h rc rs Q := pz_ret (r := some .null) ⟨⟨_, ht, Or.inl ⟨C, rfl⟩⟩, hdg⟩ hq
end PZR
end
section
/-! HEAP ROWS of the program logic -/
theorem pz_one {X : pz_X} {H : Heap} {q : Nat × va_E} (h : va_at X.1 vwCl q H) : va_P X.1 vwCl [q] H := by
  intro k x hk
  cases k with
  | zero => cases hk; exact h
  | succ k => simp at hk
section PZH
variable {Ψ : State → Prop} {X : pz_X} {M : pz_M} {d pc rc rs : Nat} {lv : List (Nat × Value)} {st : List Value} {h : pz_H} {Q : Option Value → pz_H → Prop}
theorem pz_I.to {X : pz_X} {M : pz_M} {d : Nat} {h h' : pz_H} {rc rs rc' rs' : Nat} {Q : Option Value → pz_H → Prop} {p : Program} {l : Launch} {e : Env} {R : Room} {s : State} {m : MethodId} {args : Array Value} {below : List Frame} {meth : Method} {c : Code} {Z : State → Prop} {H H' : Heap} {locs locs' : List Loc} {cells slots cells' slots' : Nat} (I : pz_I X M d h rc rs Q p l e R s m args below meth c Z H locs cells slots) (hR : pz_R X h' H') (hS : va_S (pz_A X) s.heap H' locs') (hc : cells' + rc' ≤ R.cells) (hs : slots' + rs' ≤ R.slots) : pz_I X M d h' rc' rs' Q p l e R s m args below meth c Z H' locs' cells' slots' := ⟨I.1, I.2.1, I.2.2.1, hR, hS, hc, hs⟩
theorem pz_get {idx ci k a : Nat} {fs : List Value} {v : Value} (hdg : decode M.2.1 pc = .ok (.getfield idx, 3)) (hF : pz_FL M.1.cls idx ci k) (hG : h.1 a = some (.inr (ci, fs))) (hv : fs[k]? = some v) (kk : pz_W Ψ X M d (pc + 3) lv (v :: st) h rc rs Q) : pz_W Ψ X M d pc lv (.ref a :: st) h rc rs Q := by
  intro p l e R s m args below meth c Z H locs cells slots ls hΨ I hL
  obtain ⟨C, T, N, hc, hk, hin, hl⟩ := hF
  exact va_get I.1.1 I.1.2.1 I.1.2.2.2.2.1 hin I.1.2.2.2.1 I.1.2.2.2.2.2.1.1 (pz_one (I.2.2.2.1.2.2 _ _ hG).2) 0 rfl hc k hk (I.1.2.2.2.2.1 _ hl) (fun _ h9 => h9) hv hdg (kk p l e R s m args below meth c Z H locs cells slots ls hΨ I hL)
theorem pz_put {idx ci k a : Nat} {fs : List Value} {v : Value} {ty : FieldType} (hdg : decode M.2.1 pc = .ok (.putfield idx, 3)) (hF : pz_FP M.1.cls idx ci k ty false) (hG : h.1 a = some (.inr (ci, fs))) (hn : narrow ty v = v) (hfit : fits ty v = true) (hlen : k < fs.length) (kk : pz_W Ψ X M d (pc + 3) lv st (pz_up h a (.inr (ci, fs.set k v))) rc rs Q) : pz_W Ψ X M d pc lv (v :: .ref a :: st) h rc rs Q := by
  intro p l e R s m args below meth c Z H locs cells slots ls hΨ I hL
  obtain ⟨C, T, N, ty0, hc, hk, hin, hlk, hty, hnm, hfin, hd, -⟩ := hF
  have hK := I.1.2.2.2.2.2.1.1
  have hts := I.1.2.2.2.2.1
  have hap := va_apart (own := M.1.cls) hts hin ty0 hty hnm hK hc
  obtain ⟨hB, r, h1, cell, q1, q2, q3, q4⟩ := I.2.2.2.1.2.2 _ _ hG
  have hr : r = (C, T, N) := Option.some.inj (h1.symm.trans hc)
  subst hr
  obtain ⟨hS, hfc, kC, hkC, hkind⟩ := hK.1 ci _ hc
  obtain ⟨cf, kf, fi, f, hi, hsl⟩ := hS k hk
  have hlay := hts _ (hin _ (u_in_lay hk))
  unfold u_lay at hlay
  rw [if_neg (by rw [hfin]; decide)] at hlay
  have hst := (u_facts hfc hkC (u_lays hts hin hk) hi).1
  have h6 := u_store hfc hkC hkind hlay hi hd hn hfit
  refine W.putK I.1.1 I.1.2.1 (f := f) ⟨I.1.2.2.2.1, hts _ hlk, ⟨_, _, _, hi⟩, hst⟩ (by rw [q2]; exact h6) q1 q3 (by rw [hsl]; exact k2_hasslot (q4 k hk)) rfl rfl hdg fun H' e1 e2 e3 => ?_
  rw [hsl] at e1 ⊢
  exact kk p l e R s m args below meth c Z H' _ cells slots ls hΨ (I.to (I.2.2.2.1.set hG ⟨_, hc, t_OB.to (V := updV (vp_V fs) k v) ⟨_, e1, q2, q3, t_set q4 hap hk v⟩ (fun j _ => vp_updV_set hlen v j)⟩ e2 e3) (I.2.2.2.2.1.put e2 e3 hB) I.2.2.2.2.2.1 I.2.2.2.2.2.2) hL
theorem pz_putF {idx ci k a : Nat} {fs : List Value} {v : Value} {ty : FieldType} (hdg : decode M.2.1 pc = .ok (.putfield idx, 3)) (hF : pz_FP M.1.cls idx ci k ty true) (hini : M.1.name = "<init>") (hG : h.1 a = some (.inr (ci, fs))) (hn : narrow ty v = v) (hfit : fits ty v = true) (hlen : k < fs.length) (kk : pz_W Ψ X M d (pc + 3) lv st (pz_up h a (.inr (ci, fs.set k v))) rc rs Q) : pz_W Ψ X M d pc lv (v :: .ref a :: st) h rc rs Q := by
  intro p l e R s m args below meth c Z H locs cells slots ls hΨ I hL
  obtain ⟨C, T, N, ty0, hc, hk, hin, hlk, hty, hnm, hfin, hd, hdecl⟩ := hF
  have hdecl := hdecl rfl
  have hK := I.1.2.2.2.2.2.1.1
  have hts := I.1.2.2.2.2.1
  have hown := I.1.2.2.2.1
  have hap := va_apart (own := M.1.cls) hts hin ty0 hty hnm hK hc
  obtain ⟨hB, r, h1, cell, q1, q2, q3, q4⟩ := I.2.2.2.1.2.2 _ _ hG
  have hr : r = (C, T, N) := Option.some.inj (h1.symm.trans hc)
  subst hr
  obtain ⟨hS, hfc, kC, hkC, hkind⟩ := hK.1 ci _ hc
  obtain ⟨cf, kf, fi, f, hi, hsl⟩ := hS k hk
  have hlay := hts _ (hin _ (u_in_lay hk))
  unfold u_lay at hlay
  rw [if_pos hfin] at hlay
  have hst := (u_facts hfc hkC (u_lays hts hin hk) hi).1
  have hcf : m.cls = cf := by
    obtain ⟨_, _, c', _, _, _, -, -, hf', -, -, -, hown2, -⟩ := Cond.laysFinal_spec hlay
    have e1 : c' = cf := by have := hi.symm.trans hf'; simp at this; exact this.1.symm
    rw [hdecl] at hown2
    rw [← e1]; exact Option.some.inj (hown.symm.trans hown2)
  have h6 := u_fits hfc hkC hkind (Or.inr hlay) hi hd hn hfit
  refine W.putFinK I.1.1 I.1.2.1 hown (hts _ hlk) hi hst hcf (I.1.2.2.2.2.2.2.1 hini) (by rw [q2]; exact h6) q1 q3 (by rw [hsl]; exact k2_hasslot (q4 k hk)) rfl rfl hdg fun H' e1 e2 e3 => ?_
  rw [hsl] at e1 ⊢
  exact kk p l e R s m args below meth c Z H' _ cells slots ls hΨ (I.to (I.2.2.2.1.set hG ⟨_, hc, t_OB.to (V := updV (vp_V fs) k v) ⟨_, e1, q2, q3, t_set q4 hap hk v⟩ (fun j _ => vp_updV_set hlen v j)⟩ e2 e3) (I.2.2.2.2.1.put e2 e3 hB) I.2.2.2.2.2.1 I.2.2.2.2.2.2) hL
theorem pz_iald {a n : Nat} {f : Nat → Int32} {i : Int32} (hdg : decode M.2.1 pc = .ok (.iaload, 1)) (hG : h.1 a = some (.inl (0, n, .inl f))) (hin : vp_in i n) (kk : pz_W Ψ X M d (pc + 1) lv (.int (f i.toNatClampNeg) :: st) h rc rs Q) : pz_W Ψ X M d pc lv (.int i :: .ref a :: st) h rc rs Q := by
  intro p l e R s m args below meth c Z H locs cells slots ls hΨ I hL
  exact va_iald I.1.1 I.1.2.1 I.1.2.2.2.2.2.1.1 (pz_one (I.2.2.2.1.2.2 _ _ hG).2) 0 0 rfl (pz_kt_at X (t := 0) rfl) hin hdg (kk p l e R s m args below meth c Z H locs cells slots ls hΨ I hL)
theorem pz_lald {a n : Nat} {f : Nat → Int64} {i : Int32} (hdg : decode M.2.1 pc = .ok (.laload, 1)) (hG : h.1 a = some (.inl (1, n, .inr (.inl f)))) (hin : vp_in i n) (kk : pz_W Ψ X M d (pc + 1) lv (.long (f i.toNatClampNeg) :: st) h rc rs Q) : pz_W Ψ X M d pc lv (.int i :: .ref a :: st) h rc rs Q := by
  intro p l e R s m args below meth c Z H locs cells slots ls hΨ I hL
  exact va_lald I.1.1 I.1.2.1 I.1.2.2.2.2.2.1.1 (pz_one (I.2.2.2.1.2.2 _ _ hG).2) 0 1 rfl (pz_kt_at X (t := 1) rfl) hin hdg (kk p l e R s m args below meth c Z H locs cells slots ls hΨ I hL)
theorem pz_zald {a n : Nat} {f : Nat → Int32} {i : Int32} (hdg : decode M.2.1 pc = .ok (.baload, 1)) (hG : h.1 a = some (.inl (4, n, .inl f))) (hin : vp_in i n) (kk : pz_W Ψ X M d (pc + 1) lv (.int (f i.toNatClampNeg) :: st) h rc rs Q) : pz_W Ψ X M d pc lv (.int i :: .ref a :: st) h rc rs Q := by
  intro p l e R s m args below meth c Z H locs cells slots ls hΨ I hL
  exact va_zald I.1.1 I.1.2.1 I.1.2.2.2.2.2.1.1 (pz_one (I.2.2.2.1.2.2 _ _ hG).2) 0 4 rfl (pz_kt_at X (t := 4) rfl) hin hdg (kk p l e R s m args below meth c Z H locs cells slots ls hΨ I hL)
theorem pz_aald {a n : Nat} {f : Nat → Option Nat} {i : Int32} (hdg : decode M.2.1 pc = .ok (.aaload, 1)) (hG : h.1 a = some (.inl (2, n, .inr (.inr (.inr (.inr f)))))) (hin : vp_in i n) (kk : pz_W Ψ X M d (pc + 1) lv (va_rf (f i.toNatClampNeg) :: st) h rc rs Q) : pz_W Ψ X M d pc lv (.int i :: .ref a :: st) h rc rs Q := by
  intro p l e R s m args below meth c Z H locs cells slots ls hΨ I hL
  exact va_aldq I.1.1 I.1.2.1 I.1.2.2.2.2.2.1.1 (pz_one (I.2.2.2.1.2.2 _ _ hG).2) 0 2 rfl (pz_kt_at X (t := 2) rfl) hin hdg (kk p l e R s m args below meth c Z H locs cells slots ls hΨ I hL)
theorem pz_aald2 {a n : Nat} {f : Nat → Option Nat} {i : Int32} (hdg : decode M.2.1 pc = .ok (.aaload, 1)) (hG : h.1 a = some (.inl (3, n, .inr (.inr (.inr (.inr f)))))) (hin : vp_in i n) (kk : pz_W Ψ X M d (pc + 1) lv (va_rf (f i.toNatClampNeg) :: st) h rc rs Q) : pz_W Ψ X M d pc lv (.int i :: .ref a :: st) h rc rs Q := by
  intro p l e R s m args below meth c Z H locs cells slots ls hΨ I hL
  have hlt : i.toNatClampNeg < n := Nat.not_le.mp fun q => hin (Or.inr q)
  exact W.aald (v := va_rf (f i.toNatClampNeg)) (ty := .array .int) I.1.1 I.1.2.1 (I.2.2.2.1.2.2 _ _ hG).2 ((I.1.2.2.2.2.2.1.1.2 3 _ (pz_kt_at X (t := 3) rfl)).1 n (fun j => va_rf (f j))) rfl (fun q => by cases q) (by show ¬ (i < 0 ∨ (arrV _ _ _).slots.size ≤ _); rw [arrV_size]; exact hin) (by show (arrV _ _ _).slots[_]? = _; rw [arrV_read _ _ hlt]) rfl rfl hdg (kk p l e R s m args below meth c Z H locs cells slots ls hΨ I hL)
theorem pz_iast {a n : Nat} {f : Nat → Int32} {i : Int32} {x : Int32} (hdg : decode M.2.1 pc = .ok (.iastore, 1)) (hG : h.1 a = some (.inl (0, n, .inl f))) (hin : vp_in i n) (kk : pz_W Ψ X M d (pc + 1) lv st (pz_up h a (.inl (0, n, .inl (upd f i.toNatClampNeg x)))) rc rs Q) : pz_W Ψ X M d pc lv (.int x :: .int i :: .ref a :: st) h rc rs Q := by
  intro p l e R s m args below meth c Z H locs cells slots ls hΨ I hL
  have hG1 := I.2.2.2.1.2.2 _ _ hG
  refine W.iast I.1.1 I.1.2.1 hG1.2 ((I.1.2.2.2.2.2.1.1.2 0 _ (pz_kt_at X (t := 0) rfl)).1 n (fun j => .int (f j))) (fun q => by cases q) (by show ¬ (i < 0 ∨ (arrV _ _ _).slots.size ≤ _); rw [arrV_size]; exact hin) rfl rfl hdg fun H1 e1 z oq => ?_
  refine kk p l e R s m args below meth c Z H1 _ cells slots ls hΨ (I.to (I.2.2.2.1.set hG ?_ z oq) (I.2.2.2.2.1.put z oq hG1.1) I.2.2.2.2.2.1 I.2.2.2.2.2.2) hL
  show H1[a]? = some (vp_cell _ _)
  rw [e1]
  show some ((vp_cell _ _).setSlot _ _) = _
  rw [vp_cell_i, vp_cell_i, arrV_store]
  congr 2
  funext q
  by_cases hq : q = i.toNatClampNeg
  · subst hq
    simp [updV, upd]
    try rfl
  · simp [updV, upd, hq]
theorem pz_last {a n : Nat} {f : Nat → Int64} {i : Int32} {x : Int64} (hdg : decode M.2.1 pc = .ok (.lastore, 1)) (hG : h.1 a = some (.inl (1, n, .inr (.inl f)))) (hin : vp_in i n) (kk : pz_W Ψ X M d (pc + 1) lv st (pz_up h a (.inl (1, n, .inr (.inl (vp_updL f i.toNatClampNeg x))))) rc rs Q) : pz_W Ψ X M d pc lv (.long x :: .int i :: .ref a :: st) h rc rs Q := by
  intro p l e R s m args below meth c Z H locs cells slots ls hΨ I hL
  have hG1 := I.2.2.2.1.2.2 _ _ hG
  refine W.last I.1.1 I.1.2.1 hG1.2 ((I.1.2.2.2.2.2.1.1.2 1 _ (pz_kt_at X (t := 1) rfl)).1 n (fun j => .long (f j))) (fun q => by cases q) (by show ¬ (i < 0 ∨ (arrV _ _ _).slots.size ≤ _); rw [arrV_size]; exact hin) rfl rfl hdg fun H1 e1 z oq => ?_
  refine kk p l e R s m args below meth c Z H1 _ cells slots ls hΨ (I.to (I.2.2.2.1.set hG ?_ z oq) (I.2.2.2.2.1.put z oq hG1.1) I.2.2.2.2.2.1 I.2.2.2.2.2.2) hL
  show H1[a]? = some (vp_cell _ _)
  rw [e1]
  show some ((vp_cell _ _).setSlot _ _) = _
  rw [vp_cell_l, vp_cell_l, arrV_store]
  congr 2
  funext q
  by_cases hq : q = i.toNatClampNeg
  · subst hq
    simp [updV, vp_updL]
    try rfl
  · simp [updV, vp_updL, hq]
theorem pz_zast {a n : Nat} {f : Nat → Int32} {i : Int32} {x : Int32} (hdg : decode M.2.1 pc = .ok (.bastore, 1)) (hG : h.1 a = some (.inl (4, n, .inl f))) (hin : vp_in i n) (kk : pz_W Ψ X M d (pc + 1) lv st (pz_up h a (.inl (4, n, .inl (upd f i.toNatClampNeg (vp_nar .boolean x))))) rc rs Q) : pz_W Ψ X M d pc lv (.int x :: .int i :: .ref a :: st) h rc rs Q := by
  intro p l e R s m args below meth c Z H locs cells slots ls hΨ I hL
  have hG1 := I.2.2.2.1.2.2 _ _ hG
  refine W.zast I.1.1 I.1.2.1 hG1.2 ((I.1.2.2.2.2.2.1.1.2 4 _ (pz_kt_at X (t := 4) rfl)).1 n (fun j => .int (f j))) (fun q => by cases q) (by show ¬ (i < 0 ∨ (arrV _ _ _).slots.size ≤ _); rw [arrV_size]; exact hin) rfl rfl hdg fun H1 e1 z oq => ?_
  refine kk p l e R s m args below meth c Z H1 _ cells slots ls hΨ (I.to (I.2.2.2.1.set hG ?_ z oq) (I.2.2.2.2.1.put z oq hG1.1) I.2.2.2.2.2.1 I.2.2.2.2.2.2) hL
  show H1[a]? = some (vp_cell _ _)
  rw [e1]
  show some ((vp_cell _ _).setSlot _ _) = _
  rw [vp_cell_i, vp_cell_i, arrV_store]
  congr 2
  funext q
  by_cases hq : q = i.toNatClampNeg
  · subst hq
    simp [updV, upd, vp_nar]
    try rfl
  · simp [updV, upd, vp_nar, hq]
theorem pz_alen {a t : Nat} {x : vp_A} {ty : FieldType} {v : Int32} (hdg : decode M.2.1 pc = .ok (.arraylength, 1)) (hG : h.1 a = some (.inl (t, x))) (ht : pz_ty[t]? = some ty) (hv : Int32.ofNat x.1 = v) (kk : pz_W Ψ X M d (pc + 1) lv (.int v :: st) h rc rs Q) : pz_W Ψ X M d pc lv (.ref a :: st) h rc rs Q := by
  intro p l e R s m args below meth c Z H locs cells slots ls hΨ I hL
  exact va_alen I.1.1 I.1.2.1 I.1.2.2.2.2.2.1.1 (pz_one (I.2.2.2.1.2.2 _ _ hG).2) 0 t rfl (pz_kt_at X ht) hv hdg (kk p l e R s m args below meth c Z H locs cells slots ls hΨ I hL)
theorem pz_aast {a n v ci : Nat} {vs : List Value} {f : Nat → Option Nat} {i : Int32} (hdg : decode M.2.1 pc = .ok (.aastore, 1)) (hG : h.1 a = some (.inl (2, n, .inr (.inr (.inr (.inr f)))))) (hV : h.1 v = some (.inr (1, vs))) (hin : vp_in i n) (kk : pz_W Ψ X M d (pc + 1) lv st (pz_up h a (.inl (2, n, .inr (.inr (.inr (.inr (va_up f i.toNatClampNeg (some v)))))))) rc rs Q) : pz_W Ψ X M d pc lv (.ref v :: .int i :: .ref a :: st) h rc rs Q := by
  intro p l e R s m args below meth c Z H locs cells slots ls hΨ I hL
  have hG1 := I.2.2.2.1.2.2 _ _ hG
  have hK := I.1.2.2.2.2.2.1.1
  have hlt : i.toNatClampNeg < n := Nat.not_le.mp fun q => hin (Or.inr q)
  have h0 : ¬ i < 0 := fun q => hin (Or.inl q)
  obtain ⟨-, r', hr', cellV, g1, g2, g3, -⟩ := I.2.2.2.1.2.2 _ _ hV
  have hcls := (hK.1 1 (RX1, TX1, 18) rfl).2
  obtain ⟨kA, comp, k1, k2, k3, -⟩ := (hK.2 2 _ (pz_kt_at X (t := 2) rfl)).2
  have hcomp : comp = X.1.1 1 := Option.some.inj (k3.symm.trans hcls.1)
  subst hcomp
  obtain ⟨kC, hkC, -⟩ := hcls.2
  refine W.aast I.1.1 I.1.2.1 hG1.2 (fun q h => by cases h) (fun h => by cases h) k1 k2 rfl hkC ⟨h0, by show _ < (arrV _ _ _).slots.size; rw [arrV_size]; exact hlt⟩ g1 (fun q h => by rw [g3] at h; cases h) (by rw [g2]; exact hkC) (by rw [g2]; exact va_assign hcls) rfl rfl hdg fun H1 e1 z oq => ?_
  refine kk p l e R s m args below meth c Z H1 _ cells slots ls hΨ (I.to (I.2.2.2.1.set hG ?_ z oq) (I.2.2.2.2.1.put z oq hG1.1) I.2.2.2.2.2.1 I.2.2.2.2.2.2) hL
  show H1[a]? = some (vp_cell _ _)
  rw [e1]
  show some ((vp_cell _ _).setSlot _ _) = _
  rw [vp_cell_q, vp_cell_q, arrV_store]
  congr 2
  funext q
  by_cases hq : q = i.toNatClampNeg
  · subst hq
    simp [updV, va_up, va_rf]
  · simp [updV, va_up, hq]
theorem pz_objInit {a idx : Nat} (hdg : decode M.2.1 pc = .ok (.invokespecial idx, 3)) (hl : Cond.methodLink M.1.cls idx objectInit ∈ pz_U) (hi : Cond.instanceMethod objectInit ∈ pz_U) (hcd : Cond.code objectInit ⟨#[0xb1]⟩ 1 none ∈ pz_U) (hr : (st.map fun v => v.category).sum ≤ 8) (kk : pz_W Ψ X M (d + 1) (pc + 3) lv st h rc rs Q) : pz_W Ψ X M (d + 1) pc lv (.ref a :: st) h rc rs Q := by
  intro p l e R s m args below meth c Z H locs cells slots ls hΨ I hL
  have hf := I.1.2.2.2.2.2.2.2.1
  have hlo := I.1.2.2.2.2.2.2.2.2
  exact W.objInit I.1.1 I.1.2.1 I.1.2.2.2.1 (I.1.2.2.2.2.1 _ hl) (I.1.2.2.2.2.1 _ hi) (I.1.2.2.2.2.1 _ hcd) rfl (by rw [I.1.2.2.1]; exact hL.1) rfl hdg (by omega) (by show 2 * 0 + _ + 12 ≤ _; omega) (W.eq (g2 := F0 m (pc + 3) ls st) rfl (kk p l e R s m args below meth c Z H locs cells slots ls hΨ I hL))
theorem pz_new {idx ci N : Nat} {C : String} {T : u_T} {ty : Nat → FieldType} {fs : List Value} (hdg : decode M.2.1 pc = .ok (.new idx, 3)) (hc : vwCl[ci]? = some (C, T, N)) (hin : ∀ w ∈ u_ws C T N, w ∈ pz_U) (hty : ∀ k, k < N → parseFieldDescriptor (T k).2.2.1 = some (ty k)) (h1 : Cond.classLink M.1.cls idx C ∈ pz_U) (h2 : Cond.instantiable C N ∈ pz_U) (h3 : Cond.initialized C ∈ pz_U) (hfs : ∀ j, j < N → defaultValue (ty j) = vp_V fs j)
    (kk : (∀ (q : Nat) (c : pz_E), h.1 q = some c → q < h.2) → pz_W Ψ X M d (pc + 3) lv (.ref h.2 :: st) (pz_nw h (.inr (ci, fs))) rc rs Q) : pz_W Ψ X M d pc lv st h (rc + 1) (rs + N) Q := by
  intro p l e R s m args below meth c Z H locs cells slots ls hΨ I hL
  have hK := I.1.2.2.2.2.2.1.1
  have hts := I.1.2.2.2.2.1
  have hR := I.2.2.2.1
  have hS := I.2.2.2.2.1
  have hcc := I.2.2.2.2.2.1
  have hss := I.2.2.2.2.2.2
  have hKn := hK.1 ci _ hc
  refine W.newcK I.1.1 I.1.2.1 I.1.2.2.2.1 (hts _ h1) (hts _ h2) (hts _ h3) rfl hdg (by omega) (by omega) hKn.2.1 hR.1 fun H1 kC hkC e1 z1 o1 => ?_
  exact kk (fun q c hq => hR.lt hq) p l e R s m args below meth c Z H1 locs (cells + 1) (slots + N) ls hΨ (I.to (hR.push ⟨_, hc, (u_born ty hts hin hKn hkC e1 hty).to hfs⟩ z1 o1) ⟨Nat.le_trans hS.1 (by rw [z1, hR.1]; omega), fun x g1 g2 => (o1 x (by rw [← hR.1]; exact Nat.lt_of_lt_of_le g1 hS.1)).trans (hS.2.1 x g1 g2), hS.2.2⟩ (by omega) (by omega)) hL
theorem pz_newa {t N : Nat} {at_ : ArrayType} {n : Int32} {a0 : vp_A} (hdg : decode M.2.1 pc = .ok (.newarray at_, 2)) (ht : pz_ty[t]? = some (newarray.typeOf at_)) (hp : ∀ (U : State) (cA : ClassId), va_RA U cA (newarray.typeOf at_) → U.vm.findClass ("[" ++ (newarray.typeOf at_).toString) = some cA) (hw : Cond.arrayClass (newarray.typeOf at_) ∈ pz_U) (ha : ∀ cA : ClassId, vp_cell cA a0 = arrV cA N (fun _ => defaultValue (newarray.typeOf at_))) (hn : ¬ n < 0) (hN : n.toNatClampNeg = N) (hby : N * componentBytes (newarray.typeOf at_) ≤ 536870912)
    (kk : (∀ (q : Nat) (c : pz_E), h.1 q = some c → q < h.2) → pz_W Ψ X M d (pc + 2) lv (.ref h.2 :: st) (pz_nw h (.inl (t, a0))) rc rs Q) : pz_W Ψ X M d pc lv (.int n :: st) h (rc + 1) (rs + N) Q := by
  intro p l e R s m args below meth c Z H locs cells slots ls hΨ I hL
  have hK := I.1.2.2.2.2.2.1.1
  have hts := I.1.2.2.2.2.1
  have hR := I.2.2.2.1
  have hS := I.2.2.2.2.1
  have hcc := I.2.2.2.2.2.1
  have hss := I.2.2.2.2.2.2
  refine va_newaK I.1.1 I.1.2.1 (hts _ hw) rfl hdg rfl hn hN hby (by omega) (by omega) hR.1 fun H1 cA e1 z1 o1 hAr hNm => ?_
  have hid : cA = X.2.1 t := Option.some.inj (hNm.symm.trans (hp _ _ (hK.2 t _ (pz_kt_at X ht)).2))
  subst hid
  refine kk (fun q c hq => hR.lt hq) p l e R s m args below meth c Z H1 locs (cells + 1) (slots + N) ls hΨ (I.to (hR.push ?_ z1 o1) ⟨Nat.le_trans hS.1 (by rw [z1, hR.1]; omega), fun x g1 g2 => (o1 x (by rw [← hR.1]; exact Nat.lt_of_lt_of_le g1 hS.1)).trans (hS.2.1 x g1 g2), hS.2.2⟩ (by omega) (by omega)) hL
  show H1[h.2]? = some (vp_cell _ _)
  rw [ha]
  exact e1
theorem pz_anew {N idx : Nat} {n : Int32} (hdg : decode M.2.1 pc = .ok (.anewarray idx, 3)) (hcl : Cond.classLink M.1.cls idx "CreaseFlat$Paper" ∈ pz_U) (hn : ¬ n < 0) (hN : n.toNatClampNeg = N) (hby : N * 4 ≤ 536870912)
    (kk : (∀ (q : Nat) (c : pz_E), h.1 q = some c → q < h.2) → pz_W Ψ X M d (pc + 3) lv (.ref h.2 :: st) (pz_nw h (.inl (2, N, .inr (.inr (.inr (.inr (fun _ => none))))))) rc rs Q) : pz_W Ψ X M d pc lv (.int n :: st) h (rc + 1) (rs + N) Q := by
  intro p l e R s m args below meth c Z H locs cells slots ls hΨ I hL
  have hK := I.1.2.2.2.2.2.1.1
  have hts := I.1.2.2.2.2.1
  have hR := I.2.2.2.1
  have hS := I.2.2.2.2.1
  have hcc := I.2.2.2.2.2.1
  have hss := I.2.2.2.2.2.2
  subst hN
  refine W.anew I.1.1 I.1.2.1 I.1.2.2.2.1 (hts _ hcl) (va_AO.use (I.1.2.2.2.2.2.1.2.2.2.1 _ List.mem_cons_self)) rfl hdg rfl hn hby (by omega) (by omega) fun cA kA comp f1 f2 f3 f4 => ?_
  have hid : cA = X.2.1 2 := by
    obtain ⟨kA, comp, k1, k2, k3, k4⟩ := (hK.2 2 _ (pz_kt_at X (t := 2) rfl)).2
    exact Option.some.inj (f1.symm.trans k4)
  subst hid
  generalize hH1 : H.push ({ cls := X.2.1 2, slots := Array.replicate n.toNatClampNeg .null, vm := .none } : Cell) = H1
  have z1 : H1.size = H.size + 1 := by rw [← hH1, Array.size_push]
  have e1 : H1[H.size]? = some (arrV (X.2.1 2) n.toNatClampNeg (fun _ => .null)) := by rw [← hH1, Array.getElem?_push_size, ← arrV_new]
  have o1 : ∀ q : Nat, q < H.size → H1[q]? = H[q]? := fun q hq => by rw [← hH1, Array.getElem?_push, if_neg (Nat.ne_of_lt hq)]
  rw [hR.1] at z1 e1 o1 ⊢
  refine kk (fun q c hq => hR.lt hq) p l e R s m args below meth c Z H1 locs (cells + 1) (slots + n.toNatClampNeg) ls hΨ (I.to (hR.push ?_ z1 o1) ⟨Nat.le_trans hS.1 (by rw [z1, hR.1]; omega), fun x g1 g2 => (o1 x (by rw [← hR.1]; exact Nat.lt_of_lt_of_le g1 hS.1)).trans (hS.2.1 x g1 g2), hS.2.2⟩ (by omega) (by omega)) hL
  show H1[h.2]? = some (vp_cell _ _)
  rw [vp_cell_q, e1]
  rfl
theorem pz_mmin {idx : Nat} {x y : Int32} (hdg : decode M.2.1 pc = .ok (.invokestatic idx, 3)) (hl : Cond.methodLink M.1.cls idx Lib.Math.min.name ∈ pz_U) (hs1 : Cond.static Lib.Math.min.name ∈ pz_U) (hi : Cond.initialized "java/lang/Math" ∈ pz_U) (hcd : Cond.code Lib.Math.min.name Lib.Math.min.code 2 (some .int) ∈ pz_U) (hr : (st.map fun v => v.category).sum ≤ 8) (kk : pz_W Ψ X M (d + 1) (pc + 3) lv (.int (if y < x then y else x) :: st) h rc rs Q) : pz_W Ψ X M (d + 1) pc lv (.int y :: .int x :: st) h rc rs Q := by
  intro p l e R s m args below meth c Z H locs cells slots ls hΨ I hL
  have hf := I.1.2.2.2.2.2.2.2.1
  have hlo := I.1.2.2.2.2.2.2.2.2
  have hts := I.1.2.2.2.2.1
  have hcc := I.2.2.2.2.2.1
  have hss := I.2.2.2.2.2.2
  exact va_mmin I.1.1 I.1.2.1 (I.1.2.2.1.trans hL.1.symm) I.1.2.2.2.1 (hts _ hl) (hts _ hs1) (hts _ hi) (hts _ hcd) (by omega) (by omega) (by omega) (by omega) hdg (kk p l e R s m args below meth c Z H locs cells slots ls hΨ I hL)
theorem pz_mmax {idx : Nat} {x y : Int32} (hdg : decode M.2.1 pc = .ok (.invokestatic idx, 3)) (hl : Cond.methodLink M.1.cls idx Lib.Math.max.name ∈ pz_U) (hs1 : Cond.static Lib.Math.max.name ∈ pz_U) (hi : Cond.initialized "java/lang/Math" ∈ pz_U) (hcd : Cond.code Lib.Math.max.name Lib.Math.max.code 2 (some .int) ∈ pz_U) (hr : (st.map fun v => v.category).sum ≤ 8) (kk : pz_W Ψ X M (d + 1) (pc + 3) lv (.int (if x < y then y else x) :: st) h rc rs Q) : pz_W Ψ X M (d + 1) pc lv (.int y :: .int x :: st) h rc rs Q := by
  intro p l e R s m args below meth c Z H locs cells slots ls hΨ I hL
  have hf := I.1.2.2.2.2.2.2.2.1
  have hlo := I.1.2.2.2.2.2.2.2.2
  have hts := I.1.2.2.2.2.1
  have hcc := I.2.2.2.2.2.1
  have hss := I.2.2.2.2.2.2
  exact va_mmax I.1.1 I.1.2.1 (I.1.2.2.1.trans hL.1.symm) I.1.2.2.2.1 (hts _ hl) (hts _ hs1) (hts _ hi) (hts _ hcd) (by omega) (by omega) (by omega) (by omega) hdg (kk p l e R s m args below meth c Z H locs cells slots ls hΨ I hL)
end PZH
end
section
/-! CALLS in the program logic -/
theorem pz_goodW {M : pz_M} (h : Cond.code M.1 M.2.1 M.2.2.1 M.2.2.2 ∈ pz_U) : GoodIn pz_U (pz_ws M) := fun w hw => by
  rcases List.mem_cons.mp hw with e | hw
  · rw [e]; exact ⟨h, pz_good _ h⟩
  · exact ⟨hw, pz_good _ hw⟩
theorem pz_blind {X : pz_X} {as : List Value} {h : pz_H} : FrameBlind (pz_Pc X as h) := fun a U g mk q => by
  obtain ⟨q0, qR, qK⟩ := q
  exact ⟨q0, qR, qK.same (U := U.calling g mk a) rfl⟩
theorem pz_go {X : pz_X} {p : Program} {l : Launch} {e : Env} {R : Room} {s : State} {m : MethodId} {args : Array Value} {below : List Frame} {meth : Method} {c : Code} {H : Heap} {locs : List Loc} {cells slots mc ms pc : Nat} {ls : Array Slot} {st0 rest : List Value} {Q' : Option Value → pz_H → Prop} {a : Array Value} {Z : State → Prop}
    (hr : va_Run p l e R s m args below meth c H locs cells slots mc ms (F0 m pc ls st0) rest (pz_Qc X Q' a) (pz_A X)) (hS : va_S (pz_A X) s.heap H locs)
    (kk : ∀ (r : Option Value) (h' : pz_H) (H1 : Heap) (locs1 : List Loc), Q' r h' → pz_R X h' H1 → va_S (pz_A X) s.heap H1 locs1 → W p l e R s m args below meth c H1 locs1 (cells + mc) (slots + ms) Z (F0 m (pc + 3) ls (r.toList ++ rest))) : W p l e R s m args below meth c H locs cells slots Z (F0 m pc ls st0) := by
  intro T hT X0
  obtain ⟨v, st₀, t, T', L, h0, X', hL, e1, e2, ⟨⟨r, h', hv, hq, hR⟩, hz, hk⟩, st⟩ := hr T hT X0
  cases hv
  rw [h0] at hz hk
  obtain ⟨t2, a1, b1⟩ := kk v h' T'.heap (locs ++ L) hq (by rw [e1]; exact hR)
    ⟨Nat.le_trans hS.1 (by rw [e1]; exact hz), fun q h1 h2 => by rw [e1, hk q (Nat.lt_of_lt_of_le h1 hS.1) h2]; exact hS.2.1 q h1 h2, fun q hq => by
      rcases List.mem_append.mp hq with h | h
      · exact hS.2.2 q h
      · exact hL q h⟩ T' rfl X'
  exact ⟨t2, st t2 a1, b1⟩
section PZC
variable {Ψ : State → Prop} {X : pz_X} {M M' : pz_M} {d pc rc rs mc ms idx n : Nat} {lv : List (Nat × Value)} {st rest As : List Value} {h : pz_H} {Q Q' : Option Value → pz_H → Prop}
theorem pz_pre {as : List Value} {s : State} {H : Heap} (hR : pz_R X h H) (hK : pz_K X s) : ∀ U : State, U.heap = H → s.WarmedH U.vm → pz_Pc X as h as.toArray U := fun U hU hW => ⟨rfl, by rw [hU]; exact hR, hK.warm hW⟩
theorem pz_callV {b ci N : Nat} {fs : List Value} {T : u_T} (hdg : decode M.2.1 pc = .ok (.invokevirtual idx, 3)) (hCall : pz_Call X M' d mc ms (.ref b :: As) h Q') (hst : st = As.reverse ++ .ref b :: rest) (hrest : (rest.map fun v => v.category).sum ≤ 8) (hMF : pz_MF M' As.length) (hl : Cond.methodLink M.1.cls idx M'.1 ∈ pz_U) (hG : h.1 b = some (.inr (ci, fs))) (hc : vwCl[ci]? = some (M'.1.cls, T, N)) (hin : Cond.instanceMethod M'.1 ∈ pz_U) (hse : Cond.selects M'.1.cls M'.1 M'.1 ∈ pz_U)
    (kk : ∀ (r : Option Value) (h' : pz_H), Q' r h' → pz_W Ψ X M (d + 1) (pc + 3) lv (r.toList ++ rest) h' rc rs Q) : pz_W Ψ X M (d + 1) pc lv st h (rc + mc) (rs + ms) Q := by
  intro p l e R s m args below meth c Z H locs cells slots ls hΨ I hL
  have hf := I.1.2.2.2.2.2.2.2.1
  have hlo := I.1.2.2.2.2.2.2.2.2
  have hts := I.1.2.2.2.2.1
  have hcc := I.2.2.2.2.2.1
  have hss := I.2.2.2.2.2.2
  have hK := I.1.2.2.2.2.2.1
  have hR := I.2.2.2.1
  obtain ⟨hcd, hini, hd, hL19⟩ := hMF
  have hroom : (pz_rm d mc ms).frames + 1 ≤ R.frames ∧ 8 + (M'.2.2.1 + 11) + (pz_rm d mc ms).locals ≤ R.locals := ⟨hf, by show 8 + (M'.2.2.1 + 11) + 38 * d ≤ _; omega⟩
  have cw := callB_of (R := R) (rm := pz_rm d mc ms) (mc := mc) (ms := ms) As.length hts (pz_goodW hcd) rfl rfl rfl (hts _ hini) (hts _ hl) hd hroom
  refine pz_go (va_runV (C := M'.1.cls) (As := As) (rest := rest) ⟨I.1.1, I.1.2.1, I.1.2.2.1, I.1.2.2.2.1, hts⟩ (hCall l) ⟨cw, hts _ hin, hts _ hse⟩ ⟨pz_blind, va_recv hK.1 (pz_one (hR.2.2 _ _ hG).2) hc (q0 := 0) rfl, pz_pre hR hK⟩ rfl rfl hL.1 hst (by show 2 * 0 + _ ≤ 8; omega) hdg ⟨by omega, by omega⟩) I.2.2.2.2.1 fun r h' H1 locs1 hq hR1 hS1 => ?_
  exact kk r h' hq p l e R s m args below meth c Z H1 locs1 _ _ ls hΨ (I.to hR1 hS1 (by omega) (by omega)) hL
theorem pz_callS  (hdg : decode M.2.1 pc = .ok (.invokestatic idx, 3)) (hCall : pz_Call X M' d mc ms As h Q') (hst : st = As.reverse ++ rest) (hrest : (rest.map fun v => v.category).sum ≤ 8) (hMF : pz_MF M' As.length) (hl : Cond.methodLink M.1.cls idx M'.1 ∈ pz_U) (hstt : Cond.static M'.1 ∈ pz_U)
    (kk : ∀ (r : Option Value) (h' : pz_H), Q' r h' → pz_W Ψ X M (d + 1) (pc + 3) lv (r.toList ++ rest) h' rc rs Q) : pz_W Ψ X M (d + 1) pc lv st h (rc + mc) (rs + ms) Q := by
  intro p l e R s m args below meth c Z H locs cells slots ls hΨ I hL
  have hf := I.1.2.2.2.2.2.2.2.1
  have hlo := I.1.2.2.2.2.2.2.2.2
  have hts := I.1.2.2.2.2.1
  have hcc := I.2.2.2.2.2.1
  have hss := I.2.2.2.2.2.2
  have hK := I.1.2.2.2.2.2.1
  have hR := I.2.2.2.1
  obtain ⟨hcd, hini, hd, hL19⟩ := hMF
  have hroom : (pz_rm d mc ms).frames + 1 ≤ R.frames ∧ 8 + (M'.2.2.1 + 11) + (pz_rm d mc ms).locals ≤ R.locals := ⟨hf, by show 8 + (M'.2.2.1 + 11) + 38 * d ≤ _; omega⟩
  have cw := callB_of (R := R) (rm := pz_rm d mc ms) (mc := mc) (ms := ms) As.length hts (pz_goodW hcd) rfl rfl rfl (hts _ hini) (hts _ hl) hd hroom
  refine pz_go (va_runS (As := As) (rest := rest) ⟨I.1.1, I.1.2.1, I.1.2.2.1, I.1.2.2.2.1, hts⟩ (hCall l) ⟨cw, hts _ hstt⟩ ⟨pz_blind, pz_pre hR hK⟩ rfl rfl hL.1 hst (by show 2 * 0 + _ ≤ 8; omega) hdg ⟨by omega, by omega⟩) I.2.2.2.2.1 fun r h' H1 locs1 hq hR1 hS1 => ?_
  exact kk r h' hq p l e R s m args below meth c Z H1 locs1 _ _ ls hΨ (I.to hR1 hS1 (by omega) (by omega)) hL
theorem pz_callSN  {host : String} (hdg : decode M.2.1 pc = .ok (.invokestatic idx, 3)) (hCall : pz_Call X M' d mc ms As h Q') (hst : st = As.reverse ++ rest) (hrest : (rest.map fun v => v.category).sum ≤ 8) (hMF : pz_MF M' As.length) (hl : (M.1.cls, idx, M'.1, host) ∈ pz_NM) (hstt : Cond.static M'.1 ∈ pz_U)
    (kk : ∀ (r : Option Value) (h' : pz_H), Q' r h' → pz_W Ψ X M (d + 1) (pc + 3) lv (r.toList ++ rest) h' rc rs Q) : pz_W Ψ X M (d + 1) pc lv st h (rc + mc) (rs + ms) Q := by
  intro p l e R s m args below meth c Z H locs cells slots ls hΨ I hL
  have hf := I.1.2.2.2.2.2.2.2.1
  have hlo := I.1.2.2.2.2.2.2.2.2
  have hts := I.1.2.2.2.2.1
  have hcc := I.2.2.2.2.2.1
  have hss := I.2.2.2.2.2.2
  have hK := I.1.2.2.2.2.2.1
  have hR := I.2.2.2.1
  obtain ⟨hcd, hini, hd, hL19⟩ := hMF
  have hroom : (pz_rm d mc ms).frames + 1 ≤ R.frames ∧ 8 + (M'.2.2.1 + 11) + (pz_rm d mc ms).locals ≤ R.locals := ⟨hf, by show 8 + (M'.2.2.1 + 11) + 38 * d ≤ _; omega⟩
  have cw := va_cnB (R := R) (rm := pz_rm d mc ms) (mc := mc) (ms := ms) As.length hts (pz_goodW hcd) rfl rfl rfl (hK.2.2.1 _ hl) (hts _ hini) hd hroom
  refine pz_go (va_runSN (As := As) (rest := rest) ⟨I.1.1, I.1.2.1, I.1.2.2.1, I.1.2.2.2.1, hts⟩ (hCall l) ⟨cw, hts _ hstt, trivial⟩ ⟨pz_blind, pz_pre hR hK⟩ rfl rfl hL.1 hst (by show 2 * 0 + _ ≤ 8; omega) hdg ⟨by omega, by omega⟩) I.2.2.2.2.1 fun r h' H1 locs1 hq hR1 hS1 => ?_
  exact kk r h' hq p l e R s m args below meth c Z H1 locs1 _ _ ls hΨ (I.to hR1 hS1 (by omega) (by omega)) hL
theorem pz_callI {b : Nat} (hdg : decode M.2.1 pc = .ok (.invokespecial idx, 3)) (hCall : pz_Call X M' d mc ms (.ref b :: As) h Q') (hst : st = As.reverse ++ .ref b :: rest) (hrest : (rest.map fun v => v.category).sum ≤ 8) (hMF : pz_MF M' As.length) (hl : Cond.methodLink M.1.cls idx M'.1 ∈ pz_U) (hret : M'.2.2.2 = none) (hname : M'.1.name = "<init>") (hin : Cond.instanceMethod M'.1 ∈ pz_U)
    (kk : ∀ (r : Option Value) (h' : pz_H), Q' r h' → pz_W Ψ X M (d + 1) (pc + 3) lv (r.toList ++ rest) h' rc rs Q) : pz_W Ψ X M (d + 1) pc lv st h (rc + mc) (rs + ms) Q := by
  intro p l e R s m args below meth c Z H locs cells slots ls hΨ I hL
  have hf := I.1.2.2.2.2.2.2.2.1
  have hlo := I.1.2.2.2.2.2.2.2.2
  have hts := I.1.2.2.2.2.1
  have hcc := I.2.2.2.2.2.1
  have hss := I.2.2.2.2.2.2
  have hK := I.1.2.2.2.2.2.1
  have hR := I.2.2.2.1
  obtain ⟨hcd, hini, hd, hL19⟩ := hMF
  have hroom : (pz_rm d mc ms).frames + 1 ≤ R.frames ∧ 8 + (M'.2.2.1 + 11) + (pz_rm d mc ms).locals ≤ R.locals := ⟨hf, by show 8 + (M'.2.2.1 + 11) + 38 * d ≤ _; omega⟩
  have cw := callB_of (R := R) (rm := pz_rm d mc ms) (mc := mc) (ms := ms) As.length hts (pz_goodW hcd) rfl rfl rfl (hts _ hini) (hts _ hl) hd hroom
  rw [hret] at cw
  refine pz_go (va_runI (As := As) (rest := rest) ⟨I.1.1, I.1.2.1, I.1.2.2.1, I.1.2.2.2.1, hts⟩ (hCall l) ⟨cw, hname, hts _ hin⟩ ⟨pz_blind, pz_pre hR hK⟩ rfl rfl hL.1 hst (by show 2 * 0 + _ ≤ 8; omega) hdg ⟨by omega, by omega⟩) I.2.2.2.2.1 fun r h' H1 locs1 hq hR1 hS1 => ?_
  exact kk r h' hq p l e R s m args below meth c Z H1 locs1 _ _ ls hΨ (I.to hR1 hS1 (by omega) (by omega)) hL
theorem pz_callIN {b : Nat} {host : String} (hdg : decode M.2.1 pc = .ok (.invokespecial idx, 3)) (hCall : pz_Call X M' d mc ms (.ref b :: As) h Q') (hst : st = As.reverse ++ .ref b :: rest) (hrest : (rest.map fun v => v.category).sum ≤ 8) (hMF : pz_MF M' As.length) (hl : (M.1.cls, idx, M'.1, host) ∈ pz_NM) (hret : M'.2.2.2 = none) (hname : M'.1.name = "<init>") (hin : Cond.instanceMethod M'.1 ∈ pz_U)
    (kk : ∀ (r : Option Value) (h' : pz_H), Q' r h' → pz_W Ψ X M (d + 1) (pc + 3) lv (r.toList ++ rest) h' rc rs Q) : pz_W Ψ X M (d + 1) pc lv st h (rc + mc) (rs + ms) Q := by
  intro p l e R s m args below meth c Z H locs cells slots ls hΨ I hL
  have hf := I.1.2.2.2.2.2.2.2.1
  have hlo := I.1.2.2.2.2.2.2.2.2
  have hts := I.1.2.2.2.2.1
  have hcc := I.2.2.2.2.2.1
  have hss := I.2.2.2.2.2.2
  have hK := I.1.2.2.2.2.2.1
  have hR := I.2.2.2.1
  obtain ⟨hcd, hini, hd, hL19⟩ := hMF
  have hroom : (pz_rm d mc ms).frames + 1 ≤ R.frames ∧ 8 + (M'.2.2.1 + 11) + (pz_rm d mc ms).locals ≤ R.locals := ⟨hf, by show 8 + (M'.2.2.1 + 11) + 38 * d ≤ _; omega⟩
  have cw := va_cnB (R := R) (rm := pz_rm d mc ms) (mc := mc) (ms := ms) As.length hts (pz_goodW hcd) rfl rfl rfl (hK.2.2.1 _ hl) (hts _ hini) hd hroom
  rw [hret] at cw
  refine pz_go (va_runIN (As := As) (rest := rest) ⟨I.1.1, I.1.2.1, I.1.2.2.1, I.1.2.2.2.1, hts⟩ (hCall l) ⟨cw, hname, hts _ hin⟩ ⟨pz_blind, pz_pre hR hK⟩ rfl rfl hL.1 hst (by show 2 * 0 + _ ≤ 8; omega) hdg ⟨by omega, by omega⟩) I.2.2.2.2.1 fun r h' H1 locs1 hq hR1 hS1 => ?_
  exact kk r h' hq p l e R s m args below meth c Z H1 locs1 _ _ ls hΨ (I.to hR1 hS1 (by omega) (by omega)) hL
/-- a method's contract, out of the walk of its body -/
theorem pz_call_of {as : List Value} (hy : plainName M.1.cls = true) (hlen : (lg_sl as).length ≤ M.2.2.1) (kk : pz_W (fun _ => True) X M d 0 (lv_args 0 as) [] h mc ms Q) : pz_Call X M d mc ms as h Q := by
  intro l
  refine Met.ofW (cc := M.2.1) (maxL := M.2.2.1) (ret := M.2.2.2) hy rfl ?_
  intro p e s m args below meth c s₁ B hml hv
  obtain ⟨rfl, hR, hK⟩ := hv
  have hx := B.exec
  have hb := B.bytes
  have hr := B.returns
  have hlocks := B.notSynchronized
  have hnm : meth.name = M.1.name := (name_of_methodNamed B.named B.method).1
  have hts := atoms_spec (ws := pz_ws M) B.pre
  have hl := lv_entry as (n := M.2.2.1) hlen
  rw [lg_entry_eq]
  refine kk p l e _ s m _ below meth c _ s.heap [] 0 0 _ trivial ⟨⟨hx, hb, hml, findClass_of_methodNamed B.named, fun w hw => hts w (List.mem_cons_of_mem _ hw), hK, (fun h9 => hnm.trans h9), Nat.le_refl _, Nat.le_refl _⟩, by rw [hR.1]; exact hR.2.1, ?_, hR, va_S.rf, Nat.le_of_eq (Nat.zero_add _), Nat.le_of_eq (Nat.zero_add _)⟩ hl
  intro r h' H' locs' pc' ls' hq hR' hS' hrt
  match r, hrt with
  | none, hrt => exact W.vret hx hb (hr.trans hrt.1) (fun t ht hW => ⟨⟨none, h', rfl, hq, by rw [ht]; exact hR'⟩, hS'.F ht⟩) hS'.2.2 hrt.2
  | some (.int v), ⟨ty, h1, h2, h3⟩ => exact W.zret hx hb (hr.trans h1) h2 (fun t ht hW => ⟨⟨_, h', rfl, hq, by rw [ht]; exact hR'⟩, hS'.F ht⟩) hS'.2.2 h3
  | some (.long v), ⟨h1, h3⟩ => exact W.lret hx hb (hr.trans h1) (fun t ht hW => ⟨⟨_, h', rfl, hq, by rw [ht]; exact hR'⟩, hS'.F ht⟩) hS'.2.2 h3
  | some (.ref a), ⟨⟨rt, h1, h2⟩, h3⟩ => exact W.aret hx hb (hr.trans h1) h2 (Or.inr ⟨a, rfl⟩) (fun t ht hW => ⟨⟨_, h', rfl, hq, by rw [ht]; exact hR'⟩, hS'.F ht⟩) hS'.2.2 h3
  | some .null, ⟨⟨rt, h1, h2⟩, h3⟩ => exact W.aret hx hb (hr.trans h1) h2 (Or.inl rfl) (fun t ht hW => ⟨⟨_, h', rfl, hq, by rw [ht]; exact hR'⟩, hS'.F ht⟩) hS'.2.2 h3
theorem pz_ldc2 {index : Nat} {v : Int64} (hdg : decode M.2.1 pc = .ok (.ldc2_w index, 3)) (hw : Jvm.Cond.constantLong M.1.cls index v ∈ pz_U) (kk : pz_W Ψ X M d (pc + 3) lv (.long v :: st) h rc rs Q) : pz_W Ψ X M d pc lv st h rc rs Q := by
  intro p l e R s m args below meth c Z H locs cells slots ls hΨ I hL
  exact lv_ldc2 I.1.1 I.1.2.1 I.1.2.2.2.1 (I.1.2.2.2.2.1 _ hw) hdg (kk p l e R s m args below meth c Z H locs cells slots ls hΨ I hL)
theorem pz_ldcw {index : Nat} {v : Int32} (hdg : decode M.2.1 pc = .ok (.ldc_w index, 3)) (hw : Jvm.Cond.constant M.1.cls index v ∈ pz_U) (kk : pz_W Ψ X M d (pc + 3) lv (.int v :: st) h rc rs Q) : pz_W Ψ X M d pc lv st h rc rs Q := by
  intro p l e R s m args below meth c Z H locs cells slots ls hΨ I hL
  exact lv_ldcw I.1.1 I.1.2.1 I.1.2.2.2.1 (I.1.2.2.2.2.1 _ hw) hdg (kk p l e R s m args below meth c Z H locs cells slots ls hΨ I hL)
end PZC
end
section
/-! MORE ROWS, and the words of the pure picture of a method (pq_..): what a heap must hold for an instruction, and what comes next -/
section PZN
variable {Ψ : State → Prop} {X : pz_X} {M : pz_M} {d pc rc rs : Nat} {lv lv' : List (Nat × Value)} {st : List Value} {h : pz_H} {Q : Option Value → pz_H → Prop}
theorem pz_aload_nN {k : Fin 4} (hdg : decode M.2.1 pc = .ok (.aload_n k, 1)) (hl : pz_lk lv (k : Nat) = some .null) (kk : pz_W Ψ X M d (pc + 1) lv (.null :: st) h rc rs Q) : pz_W Ψ X M d pc lv st h rc rs Q := by
  intro p l e R s m args below meth c Z H locs cells slots ls hΨ I hL
  exact lv_aload_nN I.1.1 I.1.2.1 hdg rfl (hL.2.2 _ (pz_lk_mem hl)) (kk p l e R s m args below meth c Z H locs cells slots ls hΨ I hL)
theorem pz_aloadN {i : Nat} (hdg : decode M.2.1 pc = .ok (.aload i, 2)) (hl : pz_lk lv i = some .null) (kk : pz_W Ψ X M d (pc + 2) lv (.null :: st) h rc rs Q) : pz_W Ψ X M d pc lv st h rc rs Q := by
  intro p l e R s m args below meth c Z H locs cells slots ls hΨ I hL
  exact lv_aloadN I.1.1 I.1.2.1 hdg (hL.2.2 _ (pz_lk_mem hl)) (kk p l e R s m args below meth c Z H locs cells slots ls hΨ I hL)
theorem pz_astore_nN {k : Fin 4} {i : Nat} (hdg : decode M.2.1 pc = .ok (.astore_n k, 1)) (hi : (k : Nat) = i) (hn : i < M.2.2.1) (hl : pz_set1 i .null lv = lv') (kk : pz_W Ψ X M d (pc + 1) lv' st h rc rs Q) : pz_W Ψ X M d pc lv (.null :: st) h rc rs Q := by
  intro p l e R s m args below meth c Z H locs cells slots ls hΨ I hL
  exact lv_astore_nN I.1.1 I.1.2.1 hdg hi hL hn rfl (fun ls' hL' => kk p l e R s m args below meth c Z H locs cells slots ls' hΨ I (hL'.sub (fun q hq => pz_ins_mem (by rw [← hl] at hq; exact hq))))
theorem pz_astoreN {i : Nat} (hdg : decode M.2.1 pc = .ok (.astore i, 2)) (hn : i < M.2.2.1) (hl : pz_set1 i .null lv = lv') (kk : pz_W Ψ X M d (pc + 2) lv' st h rc rs Q) : pz_W Ψ X M d pc lv (.null :: st) h rc rs Q := by
  intro p l e R s m args below meth c Z H locs cells slots ls hΨ I hL
  exact lv_astoreN I.1.1 I.1.2.1 hdg hL hn rfl (fun ls' hL' => kk p l e R s m args below meth c Z H locs cells slots ls' hΨ I (hL'.sub (fun q hq => pz_ins_mem (by rw [← hl] at hq; exact hq))))
theorem pz_areturnQ {C : String} {r : Option Nat} (hdg : decode M.2.1 pc = .ok (.areturn, 1)) (ht : M.2.2.2 = some (.object C)) (hq : Q (some (va_rf r)) h) : pz_W Ψ X M d pc lv [va_rf r] h rc rs Q := by
  cases r with
  | none => exact pz_areturnN hdg ht hq
  | some a => exact pz_areturn hdg ht hq
end PZN
def pq_qI (Q : Int32 → pz_H → Prop) : Option Value → pz_H → Prop := fun r h => ∃ v, r = some (.int v) ∧ Q v h
def pq_qJ (Q : Int64 → pz_H → Prop) : Option Value → pz_H → Prop := fun r h => ∃ v, r = some (.long v) ∧ Q v h
def pq_qN (Q : Option Nat → pz_H → Prop) : Option Value → pz_H → Prop := fun r h => ∃ v, r = some (va_rf v) ∧ Q v h
def pq_qV (Q : pz_H → Prop) : Option Value → pz_H → Prop := fun r h => r = none ∧ Q h
def pq_br (c A B : Prop) : Prop := (c → A) ∧ (¬ c → B)
def pq_gI (h : pz_H) (a ci k : Nat) (K : Int32 → Prop) : Prop := ∃ (fs : List Value) (v : Int32), h.1 a = some (.inr (ci, fs)) ∧ fs[k]? = some (.int v) ∧ K v
def pq_gA (h : pz_H) (a ci k : Nat) (K : Nat → Prop) : Prop := ∃ (fs : List Value) (v : Nat), h.1 a = some (.inr (ci, fs)) ∧ fs[k]? = some (.ref v) ∧ K v
def pq_gN (h : pz_H) (a ci k : Nat) (K : Option Nat → Prop) : Prop := ∃ (fs : List Value) (v : Option Nat), h.1 a = some (.inr (ci, fs)) ∧ fs[k]? = some (va_rf v) ∧ K v
def pq_p (h : pz_H) (a ci k : Nat) (v : Value) (K : pz_H → Prop) : Prop := ∃ (fs : List Value), h.1 a = some (.inr (ci, fs)) ∧ k < fs.length ∧ K (pz_up h a (.inr (ci, fs.set k v)))
def pq_aI (h : pz_H) (a : Nat) (i : Int32) (K : Int32 → Prop) : Prop := ∃ (n : Nat) (f : Nat → Int32), h.1 a = some (.inl (0, n, .inl f)) ∧ vp_in i n ∧ K (f i.toNatClampNeg)
def pq_aZ (h : pz_H) (a : Nat) (i : Int32) (K : Int32 → Prop) : Prop := ∃ (n : Nat) (f : Nat → Int32), h.1 a = some (.inl (4, n, .inl f)) ∧ vp_in i n ∧ K (f i.toNatClampNeg)
def pq_aJ (h : pz_H) (a : Nat) (i : Int32) (K : Int64 → Prop) : Prop := ∃ (n : Nat) (f : Nat → Int64), h.1 a = some (.inl (1, n, .inr (.inl f))) ∧ vp_in i n ∧ K (f i.toNatClampNeg)
def pq_aN (h : pz_H) (a : Nat) (i : Int32) (K : Option Nat → Prop) : Prop := ∃ (n : Nat) (f : Nat → Option Nat), h.1 a = some (.inl (2, n, .inr (.inr (.inr (.inr f))))) ∧ vp_in i n ∧ K (f i.toNatClampNeg)
def pq_aA (h : pz_H) (a : Nat) (i : Int32) (K : Nat → Prop) : Prop := ∃ (n : Nat) (f : Nat → Option Nat) (b : Nat), h.1 a = some (.inl (3, n, .inr (.inr (.inr (.inr f))))) ∧ vp_in i n ∧ f i.toNatClampNeg = some b ∧ K b
def pq_sI (h : pz_H) (a : Nat) (i x : Int32) (K : pz_H → Prop) : Prop := ∃ (n : Nat) (f : Nat → Int32), h.1 a = some (.inl (0, n, .inl f)) ∧ vp_in i n ∧ K (pz_up h a (.inl (0, n, .inl (upd f i.toNatClampNeg x))))
def pq_sZ (h : pz_H) (a : Nat) (i x : Int32) (K : pz_H → Prop) : Prop := ∃ (n : Nat) (f : Nat → Int32), h.1 a = some (.inl (4, n, .inl f)) ∧ vp_in i n ∧ K (pz_up h a (.inl (4, n, .inl (upd f i.toNatClampNeg (vp_nar .boolean x)))))
def pq_sJ (h : pz_H) (a : Nat) (i : Int32) (x : Int64) (K : pz_H → Prop) : Prop := ∃ (n : Nat) (f : Nat → Int64), h.1 a = some (.inl (1, n, .inr (.inl f))) ∧ vp_in i n ∧ K (pz_up h a (.inl (1, n, .inr (.inl (vp_updL f i.toNatClampNeg x)))))
def pq_sA (h : pz_H) (a : Nat) (i : Int32) (v : Nat) (K : pz_H → Prop) : Prop := ∃ (n : Nat) (f : Nat → Option Nat) (vs : List Value), h.1 a = some (.inl (2, n, .inr (.inr (.inr (.inr f))))) ∧ h.1 v = some (.inr (1, vs)) ∧ vp_in i n ∧ K (pz_up h a (.inl (2, n, .inr (.inr (.inr (.inr (va_up f i.toNatClampNeg (some v))))))))
def pq_len (h : pz_H) (a : Nat) (K : Int32 → Prop) : Prop := ∃ (t : Nat) (x : vp_A) (ty : FieldType), h.1 a = some (.inl (t, x)) ∧ pz_ty[t]? = some ty ∧ K (Int32.ofNat x.1)
def pq_n (h : pz_H) (c : pz_E) (K : Nat → pz_H → Prop) : Prop := (∀ (q : Nat) (c : pz_E), h.1 q = some c → q < h.2) → K h.2 (pz_nw h c)
def pq_ne (y : Int32) (K : Prop) : Prop := ¬ y = 0 ∧ K
def pq_neJ (y : Int64) (K : Prop) : Prop := ¬ y = 0 ∧ K
def pq_z (v : Int32) (K : Prop) : Prop := narrow .boolean (.int v) = .int v ∧ K
def pq_o (h : pz_H) (a ci : Nat) (K : Prop) : Prop := ∃ (fs : List Value), h.1 a = some (.inr (ci, fs)) ∧ K
def pq_ex (P : Nat → Prop) : Prop := ∃ n, P n
def pq_sw (r : Option Nat) (A : Prop) (B : Nat → Prop) : Prop := match r with
  | none => A
  | some a => B a
end
section
/-! CALLS by the number of their arguments, switches, less room -/
section PZ3
variable {Ψ : State → Prop} {X : pz_X} {M M' : pz_M} {d pc rc rs mc ms idx : Nat} {lv : List (Nat × Value)} {st rest : List Value} {h : pz_H} {Q Q' : Option Value → pz_H → Prop}
theorem pz_less {rc' rs' : Nat} (h1 : rc' ≤ rc) (h2 : rs' ≤ rs) (kk : pz_W Ψ X M d pc lv st h rc' rs' Q) : pz_W Ψ X M d pc lv st h rc rs Q := by
  intro p l e R s m args below meth c Z H locs cells slots ls hΨ I hL
  have hcc := I.2.2.2.2.2.1
  have hss := I.2.2.2.2.2.2
  exact kk p l e R s m args below meth c Z H locs cells slots ls hΨ (I.to I.2.2.2.1 I.2.2.2.2.1 (by omega) (by omega)) hL
def pq_tab (x : Int32) (lo hi : Int) (D : Prop) (Cs : List Prop) : Prop := (x.toInt < lo ∨ hi < x.toInt → D) ∧ ∀ k : Nat, x.toInt = lo + k → lo + k ≤ hi → Cs.getD k True
theorem pz_table {dflt lo hi : Int} {offs : Array Int} {len : Nat} {x : Int32} {tgt : Nat} {D : Prop} {Cs : List Prop} (tg : List Nat) (hdg : decode M.2.1 pc = .ok (.tableswitch dflt lo hi offs, len)) (hf : pq_tab x lo hi D Cs) (ht : (pc : Int) + dflt = (tgt : Int)) (htg : ∀ k, k < tg.length → offs[k]? = some ((tg.getD k 0 : Int) - pc)) (hn : hi = lo + tg.length - 1) (kD : D → pz_W Ψ X M d tgt lv st h rc rs Q) (kC : ∀ k, k < tg.length → Cs.getD k True → pz_W Ψ X M d (tg.getD k 0) lv st h rc rs Q) : pz_W Ψ X M d pc lv (.int x :: st) h rc rs Q := by
  by_cases hx : x.toInt < lo ∨ hi < x.toInt
  · exact pz_tableOut hdg hx ht (kD (hf.1 hx))
  · have h1 : ¬ x.toInt < lo := fun z => hx (Or.inl z)
    have h2 : ¬ hi < x.toInt := fun z => hx (Or.inr z)
    have e1 : x.toInt = lo + ((x.toInt - lo).toNat : Int) := by omega
    have hk : (x.toInt - lo).toNat < tg.length := by omega
    exact pz_tableIn hdg h1 h2 (htg _ hk) (by omega) (kC _ hk (hf.2 _ e1 (by omega)))
theorem pz_callV0 {b ci N : Nat} {fs : List Value} {T : u_T} (hdg : decode M.2.1 pc = .ok (.invokevirtual idx, 3)) (hCall : pz_Call X M' d mc ms [.ref b] h Q') (hrest : (rest.map fun v => v.category).sum ≤ 8) (hMF : pz_MF M' 0) (hl : Cond.methodLink M.1.cls idx M'.1 ∈ pz_U) (hG : h.1 b = some (.inr (ci, fs))) (hc : vwCl[ci]? = some (M'.1.cls, T, N)) (hin : Cond.instanceMethod M'.1 ∈ pz_U) (hse : Cond.selects M'.1.cls M'.1 M'.1 ∈ pz_U)
    (kk : ∀ (r : Option Value) (h' : pz_H), Q' r h' → pz_W Ψ X M (d + 1) (pc + 3) lv (r.toList ++ rest) h' rc rs Q) : pz_W Ψ X M (d + 1) pc lv (.ref b :: rest) h (rc + mc) (rs + ms) Q := pz_callV (As := []) (rest := rest) hdg hCall rfl hrest hMF hl hG hc hin hse kk
theorem pz_callI0 {b : Nat} (hdg : decode M.2.1 pc = .ok (.invokespecial idx, 3)) (hCall : pz_Call X M' d mc ms [.ref b] h Q') (hrest : (rest.map fun v => v.category).sum ≤ 8) (hMF : pz_MF M' 0) (hl : Cond.methodLink M.1.cls idx M'.1 ∈ pz_U) (hret : M'.2.2.2 = none) (hname : M'.1.name = "<init>") (hin : Cond.instanceMethod M'.1 ∈ pz_U)
    (kk : ∀ (r : Option Value) (h' : pz_H), Q' r h' → pz_W Ψ X M (d + 1) (pc + 3) lv (r.toList ++ rest) h' rc rs Q) : pz_W Ψ X M (d + 1) pc lv (.ref b :: rest) h (rc + mc) (rs + ms) Q := pz_callI (As := []) (rest := rest) hdg hCall rfl hrest hMF hl hret hname hin kk
theorem pz_callIN0 {b : Nat} {host : String} (hdg : decode M.2.1 pc = .ok (.invokespecial idx, 3)) (hCall : pz_Call X M' d mc ms [.ref b] h Q') (hrest : (rest.map fun v => v.category).sum ≤ 8) (hMF : pz_MF M' 0) (hl : (M.1.cls, idx, M'.1, host) ∈ pz_NM) (hret : M'.2.2.2 = none) (hname : M'.1.name = "<init>") (hin : Cond.instanceMethod M'.1 ∈ pz_U)
    (kk : ∀ (r : Option Value) (h' : pz_H), Q' r h' → pz_W Ψ X M (d + 1) (pc + 3) lv (r.toList ++ rest) h' rc rs Q) : pz_W Ψ X M (d + 1) pc lv (.ref b :: rest) h (rc + mc) (rs + ms) Q := pz_callIN (As := []) (rest := rest) hdg hCall rfl hrest hMF hl hret hname hin kk
theorem pz_callS0 (hdg : decode M.2.1 pc = .ok (.invokestatic idx, 3)) (hCall : pz_Call X M' d mc ms [] h Q') (hrest : (rest.map fun v => v.category).sum ≤ 8) (hMF : pz_MF M' 0) (hl : Cond.methodLink M.1.cls idx M'.1 ∈ pz_U) (hstt : Cond.static M'.1 ∈ pz_U)
    (kk : ∀ (r : Option Value) (h' : pz_H), Q' r h' → pz_W Ψ X M (d + 1) (pc + 3) lv (r.toList ++ rest) h' rc rs Q) : pz_W Ψ X M (d + 1) pc lv (rest) h (rc + mc) (rs + ms) Q := pz_callS (As := []) (rest := rest) hdg hCall rfl hrest hMF hl hstt kk
theorem pz_callSN0 {host : String} (hdg : decode M.2.1 pc = .ok (.invokestatic idx, 3)) (hCall : pz_Call X M' d mc ms [] h Q') (hrest : (rest.map fun v => v.category).sum ≤ 8) (hMF : pz_MF M' 0) (hl : (M.1.cls, idx, M'.1, host) ∈ pz_NM) (hstt : Cond.static M'.1 ∈ pz_U)
    (kk : ∀ (r : Option Value) (h' : pz_H), Q' r h' → pz_W Ψ X M (d + 1) (pc + 3) lv (r.toList ++ rest) h' rc rs Q) : pz_W Ψ X M (d + 1) pc lv (rest) h (rc + mc) (rs + ms) Q := pz_callSN (As := []) (rest := rest) hdg hCall rfl hrest hMF hl hstt kk
theorem pz_callV1 {v1 : Value} {b ci N : Nat} {fs : List Value} {T : u_T} (hdg : decode M.2.1 pc = .ok (.invokevirtual idx, 3)) (hCall : pz_Call X M' d mc ms [.ref b, v1] h Q') (hrest : (rest.map fun v => v.category).sum ≤ 8) (hMF : pz_MF M' 1) (hl : Cond.methodLink M.1.cls idx M'.1 ∈ pz_U) (hG : h.1 b = some (.inr (ci, fs))) (hc : vwCl[ci]? = some (M'.1.cls, T, N)) (hin : Cond.instanceMethod M'.1 ∈ pz_U) (hse : Cond.selects M'.1.cls M'.1 M'.1 ∈ pz_U)
    (kk : ∀ (r : Option Value) (h' : pz_H), Q' r h' → pz_W Ψ X M (d + 1) (pc + 3) lv (r.toList ++ rest) h' rc rs Q) : pz_W Ψ X M (d + 1) pc lv (v1 :: .ref b :: rest) h (rc + mc) (rs + ms) Q := pz_callV (As := [v1]) (rest := rest) hdg hCall rfl hrest hMF hl hG hc hin hse kk
theorem pz_callI1 {v1 : Value} {b : Nat} (hdg : decode M.2.1 pc = .ok (.invokespecial idx, 3)) (hCall : pz_Call X M' d mc ms [.ref b, v1] h Q') (hrest : (rest.map fun v => v.category).sum ≤ 8) (hMF : pz_MF M' 1) (hl : Cond.methodLink M.1.cls idx M'.1 ∈ pz_U) (hret : M'.2.2.2 = none) (hname : M'.1.name = "<init>") (hin : Cond.instanceMethod M'.1 ∈ pz_U)
    (kk : ∀ (r : Option Value) (h' : pz_H), Q' r h' → pz_W Ψ X M (d + 1) (pc + 3) lv (r.toList ++ rest) h' rc rs Q) : pz_W Ψ X M (d + 1) pc lv (v1 :: .ref b :: rest) h (rc + mc) (rs + ms) Q := pz_callI (As := [v1]) (rest := rest) hdg hCall rfl hrest hMF hl hret hname hin kk
theorem pz_callIN1 {v1 : Value} {b : Nat} {host : String} (hdg : decode M.2.1 pc = .ok (.invokespecial idx, 3)) (hCall : pz_Call X M' d mc ms [.ref b, v1] h Q') (hrest : (rest.map fun v => v.category).sum ≤ 8) (hMF : pz_MF M' 1) (hl : (M.1.cls, idx, M'.1, host) ∈ pz_NM) (hret : M'.2.2.2 = none) (hname : M'.1.name = "<init>") (hin : Cond.instanceMethod M'.1 ∈ pz_U)
    (kk : ∀ (r : Option Value) (h' : pz_H), Q' r h' → pz_W Ψ X M (d + 1) (pc + 3) lv (r.toList ++ rest) h' rc rs Q) : pz_W Ψ X M (d + 1) pc lv (v1 :: .ref b :: rest) h (rc + mc) (rs + ms) Q := pz_callIN (As := [v1]) (rest := rest) hdg hCall rfl hrest hMF hl hret hname hin kk
theorem pz_callS1 {v1 : Value} (hdg : decode M.2.1 pc = .ok (.invokestatic idx, 3)) (hCall : pz_Call X M' d mc ms [v1] h Q') (hrest : (rest.map fun v => v.category).sum ≤ 8) (hMF : pz_MF M' 1) (hl : Cond.methodLink M.1.cls idx M'.1 ∈ pz_U) (hstt : Cond.static M'.1 ∈ pz_U)
    (kk : ∀ (r : Option Value) (h' : pz_H), Q' r h' → pz_W Ψ X M (d + 1) (pc + 3) lv (r.toList ++ rest) h' rc rs Q) : pz_W Ψ X M (d + 1) pc lv (v1 :: rest) h (rc + mc) (rs + ms) Q := pz_callS (As := [v1]) (rest := rest) hdg hCall rfl hrest hMF hl hstt kk
theorem pz_callSN1 {v1 : Value} {host : String} (hdg : decode M.2.1 pc = .ok (.invokestatic idx, 3)) (hCall : pz_Call X M' d mc ms [v1] h Q') (hrest : (rest.map fun v => v.category).sum ≤ 8) (hMF : pz_MF M' 1) (hl : (M.1.cls, idx, M'.1, host) ∈ pz_NM) (hstt : Cond.static M'.1 ∈ pz_U)
    (kk : ∀ (r : Option Value) (h' : pz_H), Q' r h' → pz_W Ψ X M (d + 1) (pc + 3) lv (r.toList ++ rest) h' rc rs Q) : pz_W Ψ X M (d + 1) pc lv (v1 :: rest) h (rc + mc) (rs + ms) Q := pz_callSN (As := [v1]) (rest := rest) hdg hCall rfl hrest hMF hl hstt kk
theorem pz_callV2 {v1 v2 : Value} {b ci N : Nat} {fs : List Value} {T : u_T} (hdg : decode M.2.1 pc = .ok (.invokevirtual idx, 3)) (hCall : pz_Call X M' d mc ms [.ref b, v1, v2] h Q') (hrest : (rest.map fun v => v.category).sum ≤ 8) (hMF : pz_MF M' 2) (hl : Cond.methodLink M.1.cls idx M'.1 ∈ pz_U) (hG : h.1 b = some (.inr (ci, fs))) (hc : vwCl[ci]? = some (M'.1.cls, T, N)) (hin : Cond.instanceMethod M'.1 ∈ pz_U) (hse : Cond.selects M'.1.cls M'.1 M'.1 ∈ pz_U)
    (kk : ∀ (r : Option Value) (h' : pz_H), Q' r h' → pz_W Ψ X M (d + 1) (pc + 3) lv (r.toList ++ rest) h' rc rs Q) : pz_W Ψ X M (d + 1) pc lv (v2 :: v1 :: .ref b :: rest) h (rc + mc) (rs + ms) Q := pz_callV (As := [v1, v2]) (rest := rest) hdg hCall rfl hrest hMF hl hG hc hin hse kk
theorem pz_callI2 {v1 v2 : Value} {b : Nat} (hdg : decode M.2.1 pc = .ok (.invokespecial idx, 3)) (hCall : pz_Call X M' d mc ms [.ref b, v1, v2] h Q') (hrest : (rest.map fun v => v.category).sum ≤ 8) (hMF : pz_MF M' 2) (hl : Cond.methodLink M.1.cls idx M'.1 ∈ pz_U) (hret : M'.2.2.2 = none) (hname : M'.1.name = "<init>") (hin : Cond.instanceMethod M'.1 ∈ pz_U)
    (kk : ∀ (r : Option Value) (h' : pz_H), Q' r h' → pz_W Ψ X M (d + 1) (pc + 3) lv (r.toList ++ rest) h' rc rs Q) : pz_W Ψ X M (d + 1) pc lv (v2 :: v1 :: .ref b :: rest) h (rc + mc) (rs + ms) Q := pz_callI (As := [v1, v2]) (rest := rest) hdg hCall rfl hrest hMF hl hret hname hin kk
theorem pz_callIN2 {v1 v2 : Value} {b : Nat} {host : String} (hdg : decode M.2.1 pc = .ok (.invokespecial idx, 3)) (hCall : pz_Call X M' d mc ms [.ref b, v1, v2] h Q') (hrest : (rest.map fun v => v.category).sum ≤ 8) (hMF : pz_MF M' 2) (hl : (M.1.cls, idx, M'.1, host) ∈ pz_NM) (hret : M'.2.2.2 = none) (hname : M'.1.name = "<init>") (hin : Cond.instanceMethod M'.1 ∈ pz_U)
    (kk : ∀ (r : Option Value) (h' : pz_H), Q' r h' → pz_W Ψ X M (d + 1) (pc + 3) lv (r.toList ++ rest) h' rc rs Q) : pz_W Ψ X M (d + 1) pc lv (v2 :: v1 :: .ref b :: rest) h (rc + mc) (rs + ms) Q := pz_callIN (As := [v1, v2]) (rest := rest) hdg hCall rfl hrest hMF hl hret hname hin kk
theorem pz_callS2 {v1 v2 : Value} (hdg : decode M.2.1 pc = .ok (.invokestatic idx, 3)) (hCall : pz_Call X M' d mc ms [v1, v2] h Q') (hrest : (rest.map fun v => v.category).sum ≤ 8) (hMF : pz_MF M' 2) (hl : Cond.methodLink M.1.cls idx M'.1 ∈ pz_U) (hstt : Cond.static M'.1 ∈ pz_U)
    (kk : ∀ (r : Option Value) (h' : pz_H), Q' r h' → pz_W Ψ X M (d + 1) (pc + 3) lv (r.toList ++ rest) h' rc rs Q) : pz_W Ψ X M (d + 1) pc lv (v2 :: v1 :: rest) h (rc + mc) (rs + ms) Q := pz_callS (As := [v1, v2]) (rest := rest) hdg hCall rfl hrest hMF hl hstt kk
theorem pz_callSN2 {v1 v2 : Value} {host : String} (hdg : decode M.2.1 pc = .ok (.invokestatic idx, 3)) (hCall : pz_Call X M' d mc ms [v1, v2] h Q') (hrest : (rest.map fun v => v.category).sum ≤ 8) (hMF : pz_MF M' 2) (hl : (M.1.cls, idx, M'.1, host) ∈ pz_NM) (hstt : Cond.static M'.1 ∈ pz_U)
    (kk : ∀ (r : Option Value) (h' : pz_H), Q' r h' → pz_W Ψ X M (d + 1) (pc + 3) lv (r.toList ++ rest) h' rc rs Q) : pz_W Ψ X M (d + 1) pc lv (v2 :: v1 :: rest) h (rc + mc) (rs + ms) Q := pz_callSN (As := [v1, v2]) (rest := rest) hdg hCall rfl hrest hMF hl hstt kk
theorem pz_callV3 {v1 v2 v3 : Value} {b ci N : Nat} {fs : List Value} {T : u_T} (hdg : decode M.2.1 pc = .ok (.invokevirtual idx, 3)) (hCall : pz_Call X M' d mc ms [.ref b, v1, v2, v3] h Q') (hrest : (rest.map fun v => v.category).sum ≤ 8) (hMF : pz_MF M' 3) (hl : Cond.methodLink M.1.cls idx M'.1 ∈ pz_U) (hG : h.1 b = some (.inr (ci, fs))) (hc : vwCl[ci]? = some (M'.1.cls, T, N)) (hin : Cond.instanceMethod M'.1 ∈ pz_U) (hse : Cond.selects M'.1.cls M'.1 M'.1 ∈ pz_U)
    (kk : ∀ (r : Option Value) (h' : pz_H), Q' r h' → pz_W Ψ X M (d + 1) (pc + 3) lv (r.toList ++ rest) h' rc rs Q) : pz_W Ψ X M (d + 1) pc lv (v3 :: v2 :: v1 :: .ref b :: rest) h (rc + mc) (rs + ms) Q := pz_callV (As := [v1, v2, v3]) (rest := rest) hdg hCall rfl hrest hMF hl hG hc hin hse kk
theorem pz_callI3 {v1 v2 v3 : Value} {b : Nat} (hdg : decode M.2.1 pc = .ok (.invokespecial idx, 3)) (hCall : pz_Call X M' d mc ms [.ref b, v1, v2, v3] h Q') (hrest : (rest.map fun v => v.category).sum ≤ 8) (hMF : pz_MF M' 3) (hl : Cond.methodLink M.1.cls idx M'.1 ∈ pz_U) (hret : M'.2.2.2 = none) (hname : M'.1.name = "<init>") (hin : Cond.instanceMethod M'.1 ∈ pz_U)
    (kk : ∀ (r : Option Value) (h' : pz_H), Q' r h' → pz_W Ψ X M (d + 1) (pc + 3) lv (r.toList ++ rest) h' rc rs Q) : pz_W Ψ X M (d + 1) pc lv (v3 :: v2 :: v1 :: .ref b :: rest) h (rc + mc) (rs + ms) Q := pz_callI (As := [v1, v2, v3]) (rest := rest) hdg hCall rfl hrest hMF hl hret hname hin kk
theorem pz_callIN3 {v1 v2 v3 : Value} {b : Nat} {host : String} (hdg : decode M.2.1 pc = .ok (.invokespecial idx, 3)) (hCall : pz_Call X M' d mc ms [.ref b, v1, v2, v3] h Q') (hrest : (rest.map fun v => v.category).sum ≤ 8) (hMF : pz_MF M' 3) (hl : (M.1.cls, idx, M'.1, host) ∈ pz_NM) (hret : M'.2.2.2 = none) (hname : M'.1.name = "<init>") (hin : Cond.instanceMethod M'.1 ∈ pz_U)
    (kk : ∀ (r : Option Value) (h' : pz_H), Q' r h' → pz_W Ψ X M (d + 1) (pc + 3) lv (r.toList ++ rest) h' rc rs Q) : pz_W Ψ X M (d + 1) pc lv (v3 :: v2 :: v1 :: .ref b :: rest) h (rc + mc) (rs + ms) Q := pz_callIN (As := [v1, v2, v3]) (rest := rest) hdg hCall rfl hrest hMF hl hret hname hin kk
theorem pz_callS3 {v1 v2 v3 : Value} (hdg : decode M.2.1 pc = .ok (.invokestatic idx, 3)) (hCall : pz_Call X M' d mc ms [v1, v2, v3] h Q') (hrest : (rest.map fun v => v.category).sum ≤ 8) (hMF : pz_MF M' 3) (hl : Cond.methodLink M.1.cls idx M'.1 ∈ pz_U) (hstt : Cond.static M'.1 ∈ pz_U)
    (kk : ∀ (r : Option Value) (h' : pz_H), Q' r h' → pz_W Ψ X M (d + 1) (pc + 3) lv (r.toList ++ rest) h' rc rs Q) : pz_W Ψ X M (d + 1) pc lv (v3 :: v2 :: v1 :: rest) h (rc + mc) (rs + ms) Q := pz_callS (As := [v1, v2, v3]) (rest := rest) hdg hCall rfl hrest hMF hl hstt kk
theorem pz_callSN3 {v1 v2 v3 : Value} {host : String} (hdg : decode M.2.1 pc = .ok (.invokestatic idx, 3)) (hCall : pz_Call X M' d mc ms [v1, v2, v3] h Q') (hrest : (rest.map fun v => v.category).sum ≤ 8) (hMF : pz_MF M' 3) (hl : (M.1.cls, idx, M'.1, host) ∈ pz_NM) (hstt : Cond.static M'.1 ∈ pz_U)
    (kk : ∀ (r : Option Value) (h' : pz_H), Q' r h' → pz_W Ψ X M (d + 1) (pc + 3) lv (r.toList ++ rest) h' rc rs Q) : pz_W Ψ X M (d + 1) pc lv (v3 :: v2 :: v1 :: rest) h (rc + mc) (rs + ms) Q := pz_callSN (As := [v1, v2, v3]) (rest := rest) hdg hCall rfl hrest hMF hl hstt kk
theorem pz_callV4 {v1 v2 v3 v4 : Value} {b ci N : Nat} {fs : List Value} {T : u_T} (hdg : decode M.2.1 pc = .ok (.invokevirtual idx, 3)) (hCall : pz_Call X M' d mc ms [.ref b, v1, v2, v3, v4] h Q') (hrest : (rest.map fun v => v.category).sum ≤ 8) (hMF : pz_MF M' 4) (hl : Cond.methodLink M.1.cls idx M'.1 ∈ pz_U) (hG : h.1 b = some (.inr (ci, fs))) (hc : vwCl[ci]? = some (M'.1.cls, T, N)) (hin : Cond.instanceMethod M'.1 ∈ pz_U) (hse : Cond.selects M'.1.cls M'.1 M'.1 ∈ pz_U)
    (kk : ∀ (r : Option Value) (h' : pz_H), Q' r h' → pz_W Ψ X M (d + 1) (pc + 3) lv (r.toList ++ rest) h' rc rs Q) : pz_W Ψ X M (d + 1) pc lv (v4 :: v3 :: v2 :: v1 :: .ref b :: rest) h (rc + mc) (rs + ms) Q := pz_callV (As := [v1, v2, v3, v4]) (rest := rest) hdg hCall rfl hrest hMF hl hG hc hin hse kk
theorem pz_callI4 {v1 v2 v3 v4 : Value} {b : Nat} (hdg : decode M.2.1 pc = .ok (.invokespecial idx, 3)) (hCall : pz_Call X M' d mc ms [.ref b, v1, v2, v3, v4] h Q') (hrest : (rest.map fun v => v.category).sum ≤ 8) (hMF : pz_MF M' 4) (hl : Cond.methodLink M.1.cls idx M'.1 ∈ pz_U) (hret : M'.2.2.2 = none) (hname : M'.1.name = "<init>") (hin : Cond.instanceMethod M'.1 ∈ pz_U)
    (kk : ∀ (r : Option Value) (h' : pz_H), Q' r h' → pz_W Ψ X M (d + 1) (pc + 3) lv (r.toList ++ rest) h' rc rs Q) : pz_W Ψ X M (d + 1) pc lv (v4 :: v3 :: v2 :: v1 :: .ref b :: rest) h (rc + mc) (rs + ms) Q := pz_callI (As := [v1, v2, v3, v4]) (rest := rest) hdg hCall rfl hrest hMF hl hret hname hin kk
theorem pz_callIN4 {v1 v2 v3 v4 : Value} {b : Nat} {host : String} (hdg : decode M.2.1 pc = .ok (.invokespecial idx, 3)) (hCall : pz_Call X M' d mc ms [.ref b, v1, v2, v3, v4] h Q') (hrest : (rest.map fun v => v.category).sum ≤ 8) (hMF : pz_MF M' 4) (hl : (M.1.cls, idx, M'.1, host) ∈ pz_NM) (hret : M'.2.2.2 = none) (hname : M'.1.name = "<init>") (hin : Cond.instanceMethod M'.1 ∈ pz_U)
    (kk : ∀ (r : Option Value) (h' : pz_H), Q' r h' → pz_W Ψ X M (d + 1) (pc + 3) lv (r.toList ++ rest) h' rc rs Q) : pz_W Ψ X M (d + 1) pc lv (v4 :: v3 :: v2 :: v1 :: .ref b :: rest) h (rc + mc) (rs + ms) Q := pz_callIN (As := [v1, v2, v3, v4]) (rest := rest) hdg hCall rfl hrest hMF hl hret hname hin kk
theorem pz_callS4 {v1 v2 v3 v4 : Value} (hdg : decode M.2.1 pc = .ok (.invokestatic idx, 3)) (hCall : pz_Call X M' d mc ms [v1, v2, v3, v4] h Q') (hrest : (rest.map fun v => v.category).sum ≤ 8) (hMF : pz_MF M' 4) (hl : Cond.methodLink M.1.cls idx M'.1 ∈ pz_U) (hstt : Cond.static M'.1 ∈ pz_U)
    (kk : ∀ (r : Option Value) (h' : pz_H), Q' r h' → pz_W Ψ X M (d + 1) (pc + 3) lv (r.toList ++ rest) h' rc rs Q) : pz_W Ψ X M (d + 1) pc lv (v4 :: v3 :: v2 :: v1 :: rest) h (rc + mc) (rs + ms) Q := pz_callS (As := [v1, v2, v3, v4]) (rest := rest) hdg hCall rfl hrest hMF hl hstt kk
theorem pz_callSN4 {v1 v2 v3 v4 : Value} {host : String} (hdg : decode M.2.1 pc = .ok (.invokestatic idx, 3)) (hCall : pz_Call X M' d mc ms [v1, v2, v3, v4] h Q') (hrest : (rest.map fun v => v.category).sum ≤ 8) (hMF : pz_MF M' 4) (hl : (M.1.cls, idx, M'.1, host) ∈ pz_NM) (hstt : Cond.static M'.1 ∈ pz_U)
    (kk : ∀ (r : Option Value) (h' : pz_H), Q' r h' → pz_W Ψ X M (d + 1) (pc + 3) lv (r.toList ++ rest) h' rc rs Q) : pz_W Ψ X M (d + 1) pc lv (v4 :: v3 :: v2 :: v1 :: rest) h (rc + mc) (rs + ms) Q := pz_callSN (As := [v1, v2, v3, v4]) (rest := rest) hdg hCall rfl hrest hMF hl hstt kk
theorem pz_callV5 {v1 v2 v3 v4 v5 : Value} {b ci N : Nat} {fs : List Value} {T : u_T} (hdg : decode M.2.1 pc = .ok (.invokevirtual idx, 3)) (hCall : pz_Call X M' d mc ms [.ref b, v1, v2, v3, v4, v5] h Q') (hrest : (rest.map fun v => v.category).sum ≤ 8) (hMF : pz_MF M' 5) (hl : Cond.methodLink M.1.cls idx M'.1 ∈ pz_U) (hG : h.1 b = some (.inr (ci, fs))) (hc : vwCl[ci]? = some (M'.1.cls, T, N)) (hin : Cond.instanceMethod M'.1 ∈ pz_U) (hse : Cond.selects M'.1.cls M'.1 M'.1 ∈ pz_U)
    (kk : ∀ (r : Option Value) (h' : pz_H), Q' r h' → pz_W Ψ X M (d + 1) (pc + 3) lv (r.toList ++ rest) h' rc rs Q) : pz_W Ψ X M (d + 1) pc lv (v5 :: v4 :: v3 :: v2 :: v1 :: .ref b :: rest) h (rc + mc) (rs + ms) Q := pz_callV (As := [v1, v2, v3, v4, v5]) (rest := rest) hdg hCall rfl hrest hMF hl hG hc hin hse kk
theorem pz_callI5 {v1 v2 v3 v4 v5 : Value} {b : Nat} (hdg : decode M.2.1 pc = .ok (.invokespecial idx, 3)) (hCall : pz_Call X M' d mc ms [.ref b, v1, v2, v3, v4, v5] h Q') (hrest : (rest.map fun v => v.category).sum ≤ 8) (hMF : pz_MF M' 5) (hl : Cond.methodLink M.1.cls idx M'.1 ∈ pz_U) (hret : M'.2.2.2 = none) (hname : M'.1.name = "<init>") (hin : Cond.instanceMethod M'.1 ∈ pz_U)
    (kk : ∀ (r : Option Value) (h' : pz_H), Q' r h' → pz_W Ψ X M (d + 1) (pc + 3) lv (r.toList ++ rest) h' rc rs Q) : pz_W Ψ X M (d + 1) pc lv (v5 :: v4 :: v3 :: v2 :: v1 :: .ref b :: rest) h (rc + mc) (rs + ms) Q := pz_callI (As := [v1, v2, v3, v4, v5]) (rest := rest) hdg hCall rfl hrest hMF hl hret hname hin kk
theorem pz_callIN5 {v1 v2 v3 v4 v5 : Value} {b : Nat} {host : String} (hdg : decode M.2.1 pc = .ok (.invokespecial idx, 3)) (hCall : pz_Call X M' d mc ms [.ref b, v1, v2, v3, v4, v5] h Q') (hrest : (rest.map fun v => v.category).sum ≤ 8) (hMF : pz_MF M' 5) (hl : (M.1.cls, idx, M'.1, host) ∈ pz_NM) (hret : M'.2.2.2 = none) (hname : M'.1.name = "<init>") (hin : Cond.instanceMethod M'.1 ∈ pz_U)
    (kk : ∀ (r : Option Value) (h' : pz_H), Q' r h' → pz_W Ψ X M (d + 1) (pc + 3) lv (r.toList ++ rest) h' rc rs Q) : pz_W Ψ X M (d + 1) pc lv (v5 :: v4 :: v3 :: v2 :: v1 :: .ref b :: rest) h (rc + mc) (rs + ms) Q := pz_callIN (As := [v1, v2, v3, v4, v5]) (rest := rest) hdg hCall rfl hrest hMF hl hret hname hin kk
theorem pz_callS5 {v1 v2 v3 v4 v5 : Value} (hdg : decode M.2.1 pc = .ok (.invokestatic idx, 3)) (hCall : pz_Call X M' d mc ms [v1, v2, v3, v4, v5] h Q') (hrest : (rest.map fun v => v.category).sum ≤ 8) (hMF : pz_MF M' 5) (hl : Cond.methodLink M.1.cls idx M'.1 ∈ pz_U) (hstt : Cond.static M'.1 ∈ pz_U)
    (kk : ∀ (r : Option Value) (h' : pz_H), Q' r h' → pz_W Ψ X M (d + 1) (pc + 3) lv (r.toList ++ rest) h' rc rs Q) : pz_W Ψ X M (d + 1) pc lv (v5 :: v4 :: v3 :: v2 :: v1 :: rest) h (rc + mc) (rs + ms) Q := pz_callS (As := [v1, v2, v3, v4, v5]) (rest := rest) hdg hCall rfl hrest hMF hl hstt kk
theorem pz_callSN5 {v1 v2 v3 v4 v5 : Value} {host : String} (hdg : decode M.2.1 pc = .ok (.invokestatic idx, 3)) (hCall : pz_Call X M' d mc ms [v1, v2, v3, v4, v5] h Q') (hrest : (rest.map fun v => v.category).sum ≤ 8) (hMF : pz_MF M' 5) (hl : (M.1.cls, idx, M'.1, host) ∈ pz_NM) (hstt : Cond.static M'.1 ∈ pz_U)
    (kk : ∀ (r : Option Value) (h' : pz_H), Q' r h' → pz_W Ψ X M (d + 1) (pc + 3) lv (r.toList ++ rest) h' rc rs Q) : pz_W Ψ X M (d + 1) pc lv (v5 :: v4 :: v3 :: v2 :: v1 :: rest) h (rc + mc) (rs + ms) Q := pz_callSN (As := [v1, v2, v3, v4, v5]) (rest := rest) hdg hCall rfl hrest hMF hl hstt kk
theorem pz_callV6 {v1 v2 v3 v4 v5 v6 : Value} {b ci N : Nat} {fs : List Value} {T : u_T} (hdg : decode M.2.1 pc = .ok (.invokevirtual idx, 3)) (hCall : pz_Call X M' d mc ms [.ref b, v1, v2, v3, v4, v5, v6] h Q') (hrest : (rest.map fun v => v.category).sum ≤ 8) (hMF : pz_MF M' 6) (hl : Cond.methodLink M.1.cls idx M'.1 ∈ pz_U) (hG : h.1 b = some (.inr (ci, fs))) (hc : vwCl[ci]? = some (M'.1.cls, T, N)) (hin : Cond.instanceMethod M'.1 ∈ pz_U) (hse : Cond.selects M'.1.cls M'.1 M'.1 ∈ pz_U)
    (kk : ∀ (r : Option Value) (h' : pz_H), Q' r h' → pz_W Ψ X M (d + 1) (pc + 3) lv (r.toList ++ rest) h' rc rs Q) : pz_W Ψ X M (d + 1) pc lv (v6 :: v5 :: v4 :: v3 :: v2 :: v1 :: .ref b :: rest) h (rc + mc) (rs + ms) Q := pz_callV (As := [v1, v2, v3, v4, v5, v6]) (rest := rest) hdg hCall rfl hrest hMF hl hG hc hin hse kk
theorem pz_callI6 {v1 v2 v3 v4 v5 v6 : Value} {b : Nat} (hdg : decode M.2.1 pc = .ok (.invokespecial idx, 3)) (hCall : pz_Call X M' d mc ms [.ref b, v1, v2, v3, v4, v5, v6] h Q') (hrest : (rest.map fun v => v.category).sum ≤ 8) (hMF : pz_MF M' 6) (hl : Cond.methodLink M.1.cls idx M'.1 ∈ pz_U) (hret : M'.2.2.2 = none) (hname : M'.1.name = "<init>") (hin : Cond.instanceMethod M'.1 ∈ pz_U)
    (kk : ∀ (r : Option Value) (h' : pz_H), Q' r h' → pz_W Ψ X M (d + 1) (pc + 3) lv (r.toList ++ rest) h' rc rs Q) : pz_W Ψ X M (d + 1) pc lv (v6 :: v5 :: v4 :: v3 :: v2 :: v1 :: .ref b :: rest) h (rc + mc) (rs + ms) Q := pz_callI (As := [v1, v2, v3, v4, v5, v6]) (rest := rest) hdg hCall rfl hrest hMF hl hret hname hin kk
theorem pz_callIN6 {v1 v2 v3 v4 v5 v6 : Value} {b : Nat} {host : String} (hdg : decode M.2.1 pc = .ok (.invokespecial idx, 3)) (hCall : pz_Call X M' d mc ms [.ref b, v1, v2, v3, v4, v5, v6] h Q') (hrest : (rest.map fun v => v.category).sum ≤ 8) (hMF : pz_MF M' 6) (hl : (M.1.cls, idx, M'.1, host) ∈ pz_NM) (hret : M'.2.2.2 = none) (hname : M'.1.name = "<init>") (hin : Cond.instanceMethod M'.1 ∈ pz_U)
    (kk : ∀ (r : Option Value) (h' : pz_H), Q' r h' → pz_W Ψ X M (d + 1) (pc + 3) lv (r.toList ++ rest) h' rc rs Q) : pz_W Ψ X M (d + 1) pc lv (v6 :: v5 :: v4 :: v3 :: v2 :: v1 :: .ref b :: rest) h (rc + mc) (rs + ms) Q := pz_callIN (As := [v1, v2, v3, v4, v5, v6]) (rest := rest) hdg hCall rfl hrest hMF hl hret hname hin kk
theorem pz_callS6 {v1 v2 v3 v4 v5 v6 : Value} (hdg : decode M.2.1 pc = .ok (.invokestatic idx, 3)) (hCall : pz_Call X M' d mc ms [v1, v2, v3, v4, v5, v6] h Q') (hrest : (rest.map fun v => v.category).sum ≤ 8) (hMF : pz_MF M' 6) (hl : Cond.methodLink M.1.cls idx M'.1 ∈ pz_U) (hstt : Cond.static M'.1 ∈ pz_U)
    (kk : ∀ (r : Option Value) (h' : pz_H), Q' r h' → pz_W Ψ X M (d + 1) (pc + 3) lv (r.toList ++ rest) h' rc rs Q) : pz_W Ψ X M (d + 1) pc lv (v6 :: v5 :: v4 :: v3 :: v2 :: v1 :: rest) h (rc + mc) (rs + ms) Q := pz_callS (As := [v1, v2, v3, v4, v5, v6]) (rest := rest) hdg hCall rfl hrest hMF hl hstt kk
theorem pz_callSN6 {v1 v2 v3 v4 v5 v6 : Value} {host : String} (hdg : decode M.2.1 pc = .ok (.invokestatic idx, 3)) (hCall : pz_Call X M' d mc ms [v1, v2, v3, v4, v5, v6] h Q') (hrest : (rest.map fun v => v.category).sum ≤ 8) (hMF : pz_MF M' 6) (hl : (M.1.cls, idx, M'.1, host) ∈ pz_NM) (hstt : Cond.static M'.1 ∈ pz_U)
    (kk : ∀ (r : Option Value) (h' : pz_H), Q' r h' → pz_W Ψ X M (d + 1) (pc + 3) lv (r.toList ++ rest) h' rc rs Q) : pz_W Ψ X M (d + 1) pc lv (v6 :: v5 :: v4 :: v3 :: v2 :: v1 :: rest) h (rc + mc) (rs + ms) Q := pz_callSN (As := [v1, v2, v3, v4, v5, v6]) (rest := rest) hdg hCall rfl hrest hMF hl hstt kk
end PZ3
end
section
/-! new objects' first fields, new arrays, System.arraycopy, the JDK's own methods -/
theorem pq_defX0 : ∀ j, j < 3 → defaultValue (tyX0 j) = vp_V [.int 0, .null, .null] j := by decide +kernel
theorem pq_defX1 : ∀ j, j < 18 → defaultValue (tyX1 j) = vp_V [.int 0, .int 0, .int 0, .int 0, .int 0, .null, .null, .null, .null, .null, .null, .null, .null, .null, .null, .null, .null, .int 0] j := by decide +kernel
theorem pq_defX2 : ∀ j, j < 10 → defaultValue (tyX2 j) = vp_V [.null, .null, .null, .int 0, .int 0, .null, .int 0, .null, .null, .int 0] j := by decide +kernel
theorem pq_defX3 : ∀ j, j < 3 → defaultValue (tyX3 j) = vp_V [.null, .null, .null] j := by decide +kernel
theorem pq_defX4 : ∀ j, j < 15 → defaultValue (tyX4 j) = vp_V [.null, .int 0, .null, .null, .null, .null, .null, .null, .null, .null, .int 0, .null, .null, .null, .int 0] j := by decide +kernel
theorem pq_defX5 : ∀ j, j < 29 → defaultValue (tyX5 j) = vp_V [.int 0, .null, .null, .null, .null, .null, .null, .null, .null, .null, .null, .null, .int 0, .int 0, .null, .int 0, .null, .null, .int 0, .null, .null, .null, .null, .null, .int 0, .null, .null, .null, .int 0] j := by decide +kernel
theorem pq_z0 (cA : ClassId) (n : Nat) : vp_cell cA (n, .inl (fun _ => 0)) = arrV cA n (fun _ => defaultValue (newarray.typeOf .int)) := by rw [vp_cell_i]; rfl
theorem pq_z4 (cA : ClassId) (n : Nat) : vp_cell cA (n, .inl (fun _ => 0)) = arrV cA n (fun _ => defaultValue (newarray.typeOf .boolean)) := by rw [vp_cell_i]; rfl
theorem pq_z1 (cA : ClassId) (n : Nat) : vp_cell cA (n, .inr (.inl (fun _ => 0))) = arrV cA n (fun _ => defaultValue (newarray.typeOf .long)) := by rw [vp_cell_l]; rfl
theorem mm_min : Cond.code Lib.Math.min.name Lib.Math.min.code 2 (some .int) ∈ pz_U := pz_in 247 (by decide +kernel) rfl
theorem mm_max : Cond.code Lib.Math.max.name Lib.Math.max.code 2 (some .int) ∈ pz_U := pz_in 250 (by decide +kernel) rfl
theorem ml_copy_X4_138 : Cond.methodLink RX4 138 arraycopyName ∈ pz_U := pz_in 458 (by decide +kernel) rfl
theorem mn_copy : Cond.native arraycopyName ∈ pz_U := pz_in 460 (by decide +kernel) rfl
theorem ms_copy : Cond.static arraycopyName ∈ pz_U := pz_in 459 (by decide +kernel) rfl
def pq_copy (h : pz_H) (a0 : Nat) (sp : Int32) (a : Nat) (dp n : Int32) (K : pz_H → Prop) : Prop := ∃ (n0 n1 : Nat) (f g : Nat → Int32), h.1 a0 = some (.inl (0, n0, .inl f)) ∧ h.1 a = some (.inl (0, n1, .inl g)) ∧ ¬ sp < 0 ∧ ¬ dp < 0 ∧ ¬ n < 0 ∧ sp.toNatClampNeg + n.toNatClampNeg ≤ n0 ∧ dp.toNatClampNeg + n.toNatClampNeg ≤ n1 ∧ K (pz_up h a (.inl (0, n1, .inl (va_cpy f g sp.toNatClampNeg dp.toNatClampNeg n.toNatClampNeg))))
theorem pz_copy {Ψ : State → Prop} {X : pz_X} {M : pz_M} {d pc rc rs idx a a0 n0 n1 : Nat} {lv : List (Nat × Value)} {st : List Value} {h : pz_H} {Q : Option Value → pz_H → Prop} {f g : Nat → Int32} {sp dp n : Int32} (hdg : decode M.2.1 pc = .ok (.invokestatic idx, 3)) (hl : Cond.methodLink M.1.cls idx arraycopyName ∈ pz_U) (hnat : Cond.native arraycopyName ∈ pz_U) (hstt : Cond.static arraycopyName ∈ pz_U) (hini : Cond.initialized "java/lang/System" ∈ pz_U) (hrest : (st.map fun v => v.category).sum ≤ 8) (hG0 : h.1 a0 = some (.inl (0, n0, .inl f))) (hG1 : h.1 a = some (.inl (0, n1, .inl g))) (h1 : ¬ sp < 0) (h2 : ¬ dp < 0) (h3 : ¬ n < 0) (h4 : sp.toNatClampNeg + n.toNatClampNeg ≤ n0) (h5 : dp.toNatClampNeg + n.toNatClampNeg ≤ n1)
    (kk : pz_W Ψ X M (d + 1) (pc + 3) lv st (pz_up h a (.inl (0, n1, .inl (va_cpy f g sp.toNatClampNeg dp.toNatClampNeg n.toNatClampNeg)))) rc rs Q) : pz_W Ψ X M (d + 1) pc lv (.int n :: .int dp :: .ref a :: .int sp :: .ref a0 :: st) h rc rs Q := by
  intro p l e R s m args below meth c Z H locs cells slots ls hΨ I hL
  have hf := I.1.2.2.2.2.2.2.2.1
  have hlo := I.1.2.2.2.2.2.2.2.2
  have hts := I.1.2.2.2.2.1
  have hK := I.1.2.2.2.2.2.1.1
  have hR := I.2.2.2.1
  have hS := I.2.2.2.2.1
  have nn : ∀ z : Int32, ¬ z < 0 → z.toInt = (z.toNatClampNeg : Int) := by
    intro z hz
    have hz0 : (0 : Int) ≤ z.toInt := by
      have := Int32.not_lt.mp hz
      simpa using Int32.le_iff_toInt_le.mp this
    show z.toInt = ((z.toInt.toNat : Nat) : Int)
    omega
  have hB := (hR.2.2 _ _ hG1).1
  have hc0 : H[a0]? = some (vp_cell (X.2.1 0) (n0, .inl f)) := (hR.2.2 _ _ hG0).2
  have hc1 : H[a]? = some (vp_cell (X.2.1 0) (n1, .inl g)) := (hR.2.2 _ _ hG1).2
  obtain ⟨-, k0, hk0, cm0, hkk0⟩ := (hK.2 0 _ (pz_kt_at X (t := 0) rfl)).1 n0 (fun j => .int (f j))
  obtain ⟨-, k1, hk1, cm1, hkk1⟩ := (hK.2 0 _ (pz_kt_at X (t := 0) rfl)).1 n1 (fun j => .int (g j))
  intro T hT Xs
  obtain ⟨vm', X', step⟩ := Xs.arraycopy I.1.1 I.1.2.2.2.1 (hts _ hl) (hts _ hnat) (hts _ hstt) (hts _ hini) (src := a0) (dst := a) (cs := vp_cell (X.2.1 0) (n0, .inl f)) (cd := vp_cell (X.2.1 0) (n1, .inl g)) (srcPos := sp) (destPos := dp) (n := n) (by rw [hT]; exact hc0) (by rw [hT]; exact hc1)
    (fun _ h => by cases h) (fun _ h => by cases h) (fun h => by cases h) (fun h => by cases h) hk0 hk1 hkk0 hkk1 (by show ((refKind FieldType.int != refKind FieldType.int) || (!refKind FieldType.int && FieldType.int != FieldType.int)) = false; decide) h1 h2 h3
    (by rw [nn sp h1, nn n h3]; show ¬ _ > ((arrV (X.2.1 0) n0 (fun j => .int (f j))).slots.size : Int); rw [arrV_size]; omega)
    (by rw [nn dp h2, nn n h3]; show ¬ _ > ((arrV (X.2.1 0) n1 (fun j => .int (g j))).slots.size : Int); rw [arrV_size]; omega)
    (fun vm₁ _ i hi => by
      have e : (vp_cell (X.2.1 0) (n0, .inl f)).slots.getD (sp.toNatClampNeg + i) .null = .int (f (sp.toNatClampNeg + i)) := by
        show (arrV (X.2.1 0) n0 (fun j => .int (f j))).slots.getD _ _ = _
        rw [Array.getD_eq_getD_getElem?, arrV_read _ _ (by omega)]
        rfl
      refine ⟨?_, ?_⟩
      · rw [e]
        rfl
      · rw [e]
        exact trivial)
    (g := F0 m pc ls (.int n :: .int dp :: .ref a :: .int sp :: .ref a0 :: st)) rfl (by rw [I.1.2.2.1]; exact hL.1) (rest := st) rfl (by rw [I.1.2.1]; exact hdg) (by omega) (by
      have e9 : nativeFrameWords "java/lang/System" "arraycopy" 5 + 11 ≤ 28 := by decide +kernel
      show 2 * 0 + _ + _ ≤ _
      omega)
  have e1 : copied (vp_cell (X.2.1 0) (n0, .inl f)) (vp_cell (X.2.1 0) (n1, .inl g)) sp dp n = vp_cell (X.2.1 0) (n1, .inl (va_cpy f g sp.toNatClampNeg dp.toNatClampNeg n.toNatClampNeg)) := va_copied (fun z => .int z) (X.2.1 0) (X.2.1 0) f g h4
  rw [e1] at X' step
  have hlt : a < H.size := (Array.getElem?_eq_some_iff.mp hc1).1
  have hheap : ((T.setVm vm').setCell a (vp_cell (X.2.1 0) (n1, .inl (va_cpy f g sp.toNatClampNeg dp.toNatClampNeg n.toNatClampNeg)))).heap = H.setIfInBounds a (vp_cell (X.2.1 0) (n1, .inl (va_cpy f g sp.toNatClampNeg dp.toNatClampNeg n.toNatClampNeg))) := by rw [← hT]; rfl
  have oq : ∀ q : Nat, q ≠ a → (H.setIfInBounds a (vp_cell (X.2.1 0) (n1, .inl (va_cpy f g sp.toNatClampNeg dp.toNatClampNeg n.toNatClampNeg))))[q]? = H[q]? := fun q hq => by simp [Array.getElem?_setIfInBounds, Ne.symm hq]
  have hR1 : pz_R X (pz_up h a (.inl (0, n1, .inl (va_cpy f g sp.toNatClampNeg dp.toNatClampNeg n.toNatClampNeg)))) (H.setIfInBounds a (vp_cell (X.2.1 0) (n1, .inl (va_cpy f g sp.toNatClampNeg dp.toNatClampNeg n.toNatClampNeg)))) := hR.set hG1 (show (H.setIfInBounds a _)[a]? = some _ by simp [Array.getElem?_setIfInBounds, hlt]) (by simp) oq
  obtain ⟨t, a1, b1⟩ := kk p l e R s m args below meth c Z _ _ cells slots ls hΨ (I.to hR1 ⟨by simp; exact hS.1, fun q g1 g2 => by
      rw [oq q (fun e => g2 (by rw [e]; exact hB))]
      exact hS.2.1 q g1 g2, fun q hq => by
      rcases List.mem_append.mp hq with h | h
      · exact hS.2.2 q h
      · obtain ⟨z, -, hz⟩ := List.mem_map.mp h
        rw [← hz]
        exact hB⟩ I.2.2.2.2.2.1 I.2.2.2.2.2.2) hL _ hheap X'
  exact ⟨t, step t a1, b1⟩
/-- as pz_call_of, of a JDK method that the machine has no entry for -/
theorem pz_call_ofJ {X : pz_X} {M : pz_M} {d mc ms : Nat} {h : pz_H} {Q : Option Value → pz_H → Prop} {as : List Value} (hy : plainFor M.1 = true) (hlen : (lg_sl as).length ≤ M.2.2.1) (kk : pz_W (fun _ => True) X M d 0 (lv_args 0 as) [] h mc ms Q) : pz_Call X M d mc ms as h Q := by
  intro l
  refine va_MetF (cc := M.2.1) (maxL := M.2.2.1) (ret := M.2.2.2) hy rfl ?_
  intro p e s m args below meth c s₁ B hml hv
  obtain ⟨rfl, hR, hK⟩ := hv
  have hx := B.exec
  have hb := B.bytes
  have hr := B.returns
  have hlocks := B.notSynchronized
  have hnm : meth.name = M.1.name := (name_of_methodNamed B.named B.method).1
  have hts := atoms_spec (ws := pz_ws M) B.pre
  have hl := lv_entry as (n := M.2.2.1) hlen
  rw [lg_entry_eq]
  refine kk p l e _ s m _ below meth c _ s.heap [] 0 0 _ trivial ⟨⟨hx, hb, hml, findClass_of_methodNamed B.named, fun w hw => hts w (List.mem_cons_of_mem _ hw), hK, (fun h9 => hnm.trans h9), Nat.le_refl _, Nat.le_refl _⟩, by rw [hR.1]; exact hR.2.1, ?_, hR, va_S.rf, Nat.le_of_eq (Nat.zero_add _), Nat.le_of_eq (Nat.zero_add _)⟩ hl
  intro r h' H' locs' pc' ls' hq hR' hS' hrt
  match r, hrt with
  | none, hrt => exact W.vret hx hb (hr.trans hrt.1) (fun t ht hW => ⟨⟨none, h', rfl, hq, by rw [ht]; exact hR'⟩, hS'.F ht⟩) hS'.2.2 hrt.2
  | some (.int v), ⟨ty, h1, h2, h3⟩ => exact W.zret hx hb (hr.trans h1) h2 (fun t ht hW => ⟨⟨_, h', rfl, hq, by rw [ht]; exact hR'⟩, hS'.F ht⟩) hS'.2.2 h3
  | some (.long v), ⟨h1, h3⟩ => exact W.lret hx hb (hr.trans h1) (fun t ht hW => ⟨⟨_, h', rfl, hq, by rw [ht]; exact hR'⟩, hS'.F ht⟩) hS'.2.2 h3
  | some (.ref a), ⟨⟨rt, h1, h2⟩, h3⟩ => exact W.aret hx hb (hr.trans h1) h2 (Or.inr ⟨a, rfl⟩) (fun t ht hW => ⟨⟨_, h', rfl, hq, by rw [ht]; exact hR'⟩, hS'.F ht⟩) hS'.2.2 h3
  | some .null, ⟨⟨rt, h1, h2⟩, h3⟩ => exact W.aret hx hb (hr.trans h1) h2 (Or.inl rfl) (fun t ht hW => ⟨⟨_, h', rfl, hq, by rw [ht]; exact hR'⟩, hS'.F ht⟩) hS'.2.2 h3
end
section
/-! new int[2][K]: the outer array, and behind it its two rows -/
def pm_in (cI : ClassId) (K : Nat) : Cell := { cls := cI, slots := Array.replicate K (.int 0), vm := .none }
def pm_o0 (cA : ClassId) : Cell := { cls := cA, slots := Array.replicate 2 .null, vm := .none }
def pm_s1 (T : State) (cA : ClassId) : State := T.pushCell (pm_o0 cA)
def pm_s2 (T : State) (cA cI : ClassId) (K : Nat) : State := ((pm_s1 T cA).pushCell (pm_in cI K)).setCell T.heap.size ((pm_o0 cA).setSlot 0 (.ref (T.heap.size + 1)))
def pm_s3 (T : State) (cA cI : ClassId) (K : Nat) : State := ((pm_s2 T cA cI K).pushCell (pm_in cI K)).setCell T.heap.size (((pm_o0 cA).setSlot 0 (.ref (T.heap.size + 1))).setSlot 1 (.ref (T.heap.size + 2)))
theorem pm_z1 (T : State) (cA : ClassId) : (pm_s1 T cA).heap.size = T.heap.size + 1 ∧ (pm_s1 T cA).slotsUsed = T.slotsUsed + 2 ∧ (pm_s1 T cA).vm = T.vm ∧ (pm_s1 T cA).heap[T.heap.size]? = some (pm_o0 cA) := ⟨by simp [pm_s1], by simp [pm_s1, pm_o0], rfl, by simp [pm_s1]⟩
theorem pm_b1 (T : State) (cA cI : ClassId) (K : Nat) : ((pm_s1 T cA).pushCell (pm_in cI K)).heap[T.heap.size]? = some (pm_o0 cA) := by
  have hlt : T.heap.size < (pm_s1 T cA).heap.size := by rw [(pm_z1 T cA).1]; omega
  rw [State.heap_pushCell_of_lt (h := hlt)]
  exact (pm_z1 T cA).2.2.2
theorem pm_z2 (T : State) (cA cI : ClassId) (K : Nat) : (pm_s2 T cA cI K).heap.size = T.heap.size + 2 ∧ (pm_s2 T cA cI K).slotsUsed = T.slotsUsed + 2 + K ∧ (pm_s2 T cA cI K).vm = T.vm ∧ (pm_s2 T cA cI K).heap[T.heap.size]? = some ((pm_o0 cA).setSlot 0 (.ref (T.heap.size + 1))) := by
  refine ⟨by simp [pm_s2, State.setCell, (pm_z1 T cA).1], ?_, by simp [pm_s2, (pm_z1 T cA).2.2.1], State.heap_setCell_self (pm_b1 T cA cI K)⟩
  have := (pm_z1 T cA).2.1
  simp [pm_s2, this, pm_in]
theorem pm_b2 (T : State) (cA cI : ClassId) (K : Nat) : ((pm_s2 T cA cI K).pushCell (pm_in cI K)).heap[T.heap.size]? = some ((pm_o0 cA).setSlot 0 (.ref (T.heap.size + 1))) := by
  have hlt : T.heap.size < (pm_s2 T cA cI K).heap.size := by rw [(pm_z2 T cA cI K).1]; omega
  rw [State.heap_pushCell_of_lt (h := hlt)]
  exact (pm_z2 T cA cI K).2.2.2
section PM
variable {E : CtlPost} {e : Env} {d : Bool} {acts : List Action} {s : State}
theorem pm_alloc {c comp : ClassId} {k : Class} {type : FieldType} {len : Nat} {v0 : Value} (hk : s.vm.classes[c]? = some k) (hkind : k.kind = .array comp type) (hl : ¬ len > e.platform.arrayLengthLimit) (hb : ¬ len * componentBytes type > e.platform.maxHeapBytes) (hfit : fits type v0 = true) (hdef : v0.isDefault = true) {Q : Addr → Pre} (h1 : s.heap.size < e.platform.maxCells) (h2 : s.slotsUsed + len ≤ e.platform.maxSlots)
    (hq : Q s.heap.size d acts (s.pushCell { cls := c, slots := Array.replicate len v0, vm := .none })) : wp (Jvm.newArray c len v0) Q E e d acts s := by
  have hfits : ∀ i v, (Array.replicate len v0)[i]? = some v → s.fitsSlot c .none i v = true := fun i v hv => by
    rw [Array.getElem?_replicate] at hv
    split at hv
    · cases hv
      simp [State.fitsSlot, State.slotType?, hk, hkind, hfit]
    · cases hv
  have hall : ((Array.replicate len v0).all (·.isDefault)) = true := by
    rw [Array.all_replicate]
    split <;> simp [hdef]
  have hact : allocActs (Array.replicate len v0) s.heap.size acts = acts := by
    unfold allocActs
    rw [if_pos hall]
  simp only [Jvm.newArray, Jvm.arrayFits, wp_bind', Jvm.W.ask, Jvm.W.ite, hl, if_false, wp_pure', Jvm.W.theClass, hk, hkind, hb, Jvm.W.alloc, Jvm.W.stop, Option.some.injEq, exists_eq_left', Array.size_replicate, hact]
  rw [if_neg (by omega)]
  exact ⟨h1, h2, hfits, hq⟩
theorem pm_row {cI cc : ClassId} {kI : Class} {k : Int32} (hkI : s.vm.classes[cI]? = some kI) (hkindI : kI.kind = .array cc .int) (hk : ¬ k < 0) (hl : ¬ k.toNatClampNeg > e.platform.arrayLengthLimit) (hb : ¬ k.toNatClampNeg * componentBytes .int > e.platform.maxHeapBytes) (h1 : s.heap.size < e.platform.maxCells) (h2 : s.slotsUsed + k.toNatClampNeg ≤ e.platform.maxSlots)
    {Q : Addr → Pre} (hq : Q s.heap.size d acts (s.pushCell (pm_in cI k.toNatClampNeg))) : wp (multianewarray.make cI [k]) Q E e d acts s := by
  rw [multianewarray.make]
  simp only [wp_bind', Jvm.W.ite, hk, if_false, wp_pure', Jvm.W.theClass, hkI, hkindI, Option.some.injEq, exists_eq_left']
  exact pm_alloc hkI hkindI hl hb rfl rfl h1 h2 hq
theorem pm_make {cA cI cc : ClassId} {kA kI : Class} {k : Int32} (hkA : s.vm.classes[cA]? = some kA) (hkindA : kA.kind = .array cI (.array .int)) (hkI : s.vm.classes[cI]? = some kI) (hkindI : kI.kind = .array cc .int) (hk : ¬ k < 0) (hl0 : ¬ 2 > e.platform.arrayLengthLimit) (hb0 : ¬ 2 * componentBytes (.array .int) > e.platform.maxHeapBytes) (hl : ¬ k.toNatClampNeg > e.platform.arrayLengthLimit) (hb : ¬ k.toNatClampNeg * componentBytes .int > e.platform.maxHeapBytes) (h1 : s.heap.size + 3 ≤ e.platform.maxCells) (h2 : s.slotsUsed + 2 + 2 * k.toNatClampNeg ≤ e.platform.maxSlots)
    {Q : Addr → Pre} (hq : ∀ d' acts', Q s.heap.size d' acts' (pm_s3 s cA cI k.toNatClampNeg)) : wp (multianewarray.make cA [2, k]) Q E e d acts s := by
  have hfind : ([k].find? (· < 0)) = none := by simp [hk]
  have h20 : ¬ (2 : Int32) < 0 := by decide
  have h22 : (2 : Int32).toNatClampNeg = 2 := by decide
  obtain ⟨a1, a2, a3, a4⟩ := pm_z1 s cA
  obtain ⟨c1, c2, c3, c4⟩ := pm_z2 s cA cI k.toNatClampNeg
  rw [multianewarray.make]
  simp only [wp_bind', Jvm.W.ite, h20, if_false, wp_pure', Jvm.W.theClass, hkA, hkindA, Option.some.injEq, exists_eq_left', h22]
  refine pm_alloc hkA hkindA hl0 hb0 rfl rfl (by omega) (by omega) ?_
  simp only [hfind]
  rw [ite_self, wp_bind', Std.Legacy.Range.forIn_eq_forIn_range']
  show wp (forIn [0, 1] PUnit.unit _) _ E e d acts (pm_s1 s cA)
  simp only [List.forIn_cons, List.forIn_nil, wp_bind', wp_pure']
  refine pm_row (by rw [a3]; exact hkI) hkindI hk hl hb (by omega) (by omega) ?_
  simp only [wp_bind', Jvm.W.writeLoc, wp_pure']
  refine ⟨pm_o0 cA, pm_b1 s cA cI _, (fun z => by cases z), by simp [pm_o0], ?_, ?_⟩
  · simp [State.fitsSlot, State.slotType?, a3, hkA, hkindA, pm_o0, fits]
  rw [a1]
  show wp _ _ E e _ _ (pm_s2 s cA cI k.toNatClampNeg)
  refine pm_row (by rw [c3]; exact hkI) hkindI hk hl hb (by omega) (by omega) ?_
  simp only [wp_bind', Jvm.W.writeLoc, wp_pure']
  refine ⟨_, pm_b2 s cA cI _, (fun z => by cases z), by simp [pm_o0, Cell.setSlot], ?_, ?_⟩
  · simp [State.fitsSlot, State.slotType?, c3, hkA, hkindA, pm_o0, fits, Cell.setSlot]
  rw [c1]
  exact hq _ _
end PM
theorem pm_top (T : State) (f : JFrame) (cA cI : ClassId) (K : Nat) : pm_s3 (T.setTop f) cA cI K = (pm_s3 T cA cI K).setTop f := by
  simp only [pm_s3, pm_s2, pm_s1, State.heap_setTop, State.pushCell_setTop, State.setCell_setTop]
theorem pm_stand {p : Program} {l : Launch} {e : Env} {R : Room} {s : State} {m : MethodId} {args : Array Value} {below : List Frame} {meth : Method} {c : Code} {T : State} {locs : List Loc} {cells slots : Nat} (X : Stand p l e R s m args below meth c T locs cells slots) (cA cI : ClassId) (K : Nat) : Stand p l e R s m args below meth c (pm_s3 T cA cI K) locs (cells + 3) (slots + (2 + 2 * K)) := by
  have g0 : s.heap.size ≤ T.heap.size := X.heapGrown
  have x1 : Stand p l e R s m args below meth c (pm_s1 T cA) locs (cells + 1) (slots + 2) := by
    have h := X.pushed (pm_o0 cA)
    have e1 : (pm_o0 cA).slots.size = 2 := by simp [pm_o0]
    rw [e1] at h
    exact h
  have e2 : (pm_in cI K).slots.size = K := by simp [pm_in]
  have x2 : Stand p l e R s m args below meth c (pm_s2 T cA cI K) locs (cells + 1 + 1) (slots + 2 + K) := by
    have h := (x1.pushed (pm_in cI K)).stored (pm_b1 T cA cI K) 0 (.ref (T.heap.size + 1))
    rw [e2] at h
    exact h.dropFresh (fun y hy => by rw [List.mem_singleton.mp hy]; exact g0)
  have h := (x2.pushed (pm_in cI K)).stored (pm_b2 T cA cI K) 1 (.ref (T.heap.size + 2))
  rw [e2] at h
  have h3 := h.dropFresh (fun y hy => by rw [List.mem_singleton.mp hy]; exact g0)
  have e3 : cells + 1 + 1 + 1 = cells + 3 := by omega
  have e4 : slots + 2 + K + K = slots + (2 + 2 * K) := by omega
  rw [e3, e4] at h3
  exact h3
def pz_nwM (h : pz_H) (K : Nat) : pz_H := (fun q => if q = h.2 then some (.inl (3, 2, .inr (.inr (.inr (.inr (fun i => if i = 0 then some (h.2 + 1) else if i = 1 then some (h.2 + 2) else none)))))) else if q = h.2 + 1 ∨ q = h.2 + 2 then some (.inl (0, K, .inl (fun _ => 0))) else h.1 q, h.2 + 3)
def pq_mul (h : pz_H) (N K : Nat) (C : Nat → pz_H → Prop) : Prop := (∀ (q : Nat) (c : pz_E), h.1 q = some c → q < h.2) → C h.2 (pz_nwM h K)
theorem pm_heap (T : State) (cA cI : ClassId) (K : Nat) : (pm_s3 T cA cI K).heap.size = T.heap.size + 3 ∧ (∀ q : Nat, q < T.heap.size → (pm_s3 T cA cI K).heap[q]? = T.heap[q]?) ∧ (pm_s3 T cA cI K).heap[T.heap.size]? = some (((pm_o0 cA).setSlot 0 (.ref (T.heap.size + 1))).setSlot 1 (.ref (T.heap.size + 2))) ∧ (pm_s3 T cA cI K).heap[T.heap.size + 1]? = some (pm_in cI K) ∧ (pm_s3 T cA cI K).heap[T.heap.size + 2]? = some (pm_in cI K) := by
  obtain ⟨a1, a2, a3, a4⟩ := pm_z1 T cA
  obtain ⟨c1, c2, c3, c4⟩ := pm_z2 T cA cI K
  have o1 : ∀ q : Nat, q ≠ T.heap.size → q < T.heap.size + 1 → (pm_s2 T cA cI K).heap[q]? = (pm_s1 T cA).heap[q]? := fun q h1 h2 => by
    show (((pm_s1 T cA).pushCell (pm_in cI K)).setCell T.heap.size _).heap[q]? = _
    have hlt : q < (pm_s1 T cA).heap.size := by rw [a1]; exact h2
    rw [State.heap_setCell_other (Ne.symm h1), State.heap_pushCell_of_lt (h := hlt)]
  have o2 : ∀ q : Nat, q ≠ T.heap.size → q < T.heap.size + 2 → (pm_s3 T cA cI K).heap[q]? = (pm_s2 T cA cI K).heap[q]? := fun q h1 h2 => by
    show (((pm_s2 T cA cI K).pushCell (pm_in cI K)).setCell T.heap.size _).heap[q]? = _
    have hlt : q < (pm_s2 T cA cI K).heap.size := by rw [c1]; exact h2
    rw [State.heap_setCell_other (Ne.symm h1), State.heap_pushCell_of_lt (h := hlt)]
  refine ⟨by simp [pm_s3, State.setCell, c1], fun q hq => ?_, State.heap_setCell_self (pm_b2 T cA cI K), ?_, ?_⟩
  · rw [o2 q (by omega) (by omega), o1 q (by omega) (by omega)]
    exact State.heap_pushCell_of_lt _ _ hq
  · rw [o2 _ (by omega) (by omega)]
    show (((pm_s1 T cA).pushCell (pm_in cI K)).setCell T.heap.size _).heap[T.heap.size + 1]? = _
    rw [State.heap_setCell_other (show T.heap.size ≠ T.heap.size + 1 by omega), ← a1]
    exact State.heap_pushCell_size _ _
  · show (((pm_s2 T cA cI K).pushCell (pm_in cI K)).setCell T.heap.size _).heap[T.heap.size + 2]? = _
    rw [State.heap_setCell_other (show T.heap.size ≠ T.heap.size + 2 by omega), ← c1]
    exact State.heap_pushCell_size _ _
theorem pm_outer (cA : ClassId) (a : Nat) : ((pm_o0 cA).setSlot 0 (.ref (a + 1))).setSlot 1 (.ref (a + 2)) = vp_cell cA (2, .inr (.inr (.inr (.inr (fun i => if i = 0 then some (a + 1) else if i = 1 then some (a + 2) else none))))) := by
  rw [vp_cell_q]
  have e0 : pm_o0 cA = arrV cA 2 (fun _ => .null) := by unfold pm_o0; rw [arrV_new]
  rw [e0, arrV_store, arrV_store]
  refine congrArg (arrV cA 2) (funext fun j => ?_)
  by_cases h0 : j = 0
  · subst h0; simp [updV, va_rf]
  · by_cases h1 : j = 1
    · subst h1; simp [updV, va_rf]
    · simp [updV, va_rf, h0, h1]
theorem pm_inner (cI : ClassId) (K : Nat) : pm_in cI K = vp_cell cI (K, .inl (fun _ => 0)) := by
  rw [vp_cell_i]
  unfold pm_in
  rw [arrV_new]
set_option maxHeartbeats 4000000 in
theorem pz_multi {Ψ : State → Prop} {X : pz_X} {M : pz_M} {d pc rc rs idx K : Nat} {lv : List (Nat × Value)} {st : List Value} {h : pz_H} {Q : Option Value → pz_H → Prop} {k : Int32} (hdg : decode M.2.1 pc = .ok (.multianewarray idx 2, 4)) (hcl : Cond.classLink M.1.cls idx "[[I" ∈ pz_U) (hk : ¬ k < 0) (hK : k.toNatClampNeg = K) (hby : K ≤ 1000)
    (kk : (∀ (q : Nat) (c : pz_E), h.1 q = some c → q < h.2) → pz_W Ψ X M d (pc + 4) lv (.ref h.2 :: st) (pz_nwM h K) rc rs Q) : pz_W Ψ X M d pc lv (.int k :: .int 2 :: st) h (rc + 3) (rs + (2 + 2 * K)) Q := by
  intro p l e R s m args below meth c Z H locs cells slots ls hΨ I hL
  have hK0 := I.1.2.2.2.2.2.1.1
  obtain ⟨kA, hkA, hkindA⟩ := I.1.2.2.2.2.2.1.2.2.2.2
  have hts := I.1.2.2.2.2.1
  have hR := I.2.2.2.1
  have hS := I.2.2.2.2.1
  have hcc := I.2.2.2.2.2.1
  have hss := I.2.2.2.2.2.2
  have hfA : s.vm.findClass "[[I" = some (X.2.1 3) := (hK0.2 3 _ (pz_kt_at X (t := 3) rfl)).2
  obtain ⟨-, kI, hkI, cc, hkindI⟩ := (hK0.2 0 _ (pz_kt_at X (t := 0) rfl)).1 0 (fun _ => .int 0)
  have hkI : s.vm.classes[X.2.1 0]? = some kI := hkI
  subst hK
  intro T hT Xs
  have hpl : e.platform.magicAccessors = ({} : Platform).magicAccessors := by rw [Xs.admits.platform]
  obtain ⟨c0, hfc0, hclk⟩ := Cond.classLink_spec I.1.2.2.2.1 (hts _ hcl) e.platform hpl
  have ec : c0 = X.2.1 3 := Option.some.inj (hfc0.symm.trans hfA)
  subst ec
  obtain ⟨hg₁, hwarm₁, -⟩ := State.classEntry (e := e) Xs.warmed hclk
  generalize T.vm.noted m.cls idx (.cls (X.2.1 3)) = vm₁ at hg₁ hwarm₁
  obtain ⟨kA₁, hkA₁, heA⟩ := hwarm₁.alike.2.2 _ _ hkA
  obtain ⟨kI₁, hkI₁, heI⟩ := hwarm₁.alike.2.2 _ _ hkI
  have X₁ := Xs.noted hwarm₁
  have X3 := pm_stand X₁ (X.2.1 3) (X.2.1 0) k.toNatClampNeg
  obtain ⟨r1, r2⟩ := Xs.roomAbove (a := 3) (b := 2 + 2 * k.toNatClampNeg) (by omega) (by omega)
  obtain ⟨f1, f2, f3, f4, f5⟩ := pm_heap (T.setVm vm₁) (X.2.1 3) (X.2.1 0) k.toNatClampNeg
  have hTh : (T.setVm vm₁).heap = H := hT
  rw [hTh, hR.1] at f1 f3 f4 f5
  rw [hTh] at f2
  rw [hR.1] at f2
  rw [pm_outer] at f3
  rw [pm_inner] at f4 f5
  generalize hF : (pm_s3 (T.setVm vm₁) (X.2.1 3) (X.2.1 0) k.toNatClampNeg).heap = H1 at f1 f2 f3 f4 f5
  have hRn : pz_R X (pz_nwM h k.toNatClampNeg) H1 := by
    refine ⟨f1, Nat.le_trans hR.2.1 (Nat.le_add_right _ _), fun q c1 hq => ?_⟩
    unfold pz_nwM at hq
    dsimp only at hq
    by_cases h0 : q = h.2
    · rw [if_pos h0] at hq
      cases hq
      subst h0
      exact ⟨hR.2.1, f3⟩
    · rw [if_neg h0] at hq
      by_cases h1 : q = h.2 + 1 ∨ q = h.2 + 2
      · rw [if_pos h1] at hq
        cases hq
        rcases h1 with h1 | h1
        · subst h1
          exact ⟨Nat.le_trans hR.2.1 (Nat.le_add_right _ _), f4⟩
        · subst h1
          exact ⟨Nat.le_trans hR.2.1 (Nat.le_add_right _ _), f5⟩
      · rw [if_neg h1] at hq
        obtain ⟨g1, g2⟩ := hR.2.2 q c1 hq
        exact ⟨g1, g2.kept (f2 q (hR.lt hq))⟩
  have hSn : va_S (pz_A X) s.heap H1 locs := ⟨Nat.le_trans hS.1 (by rw [f1, hR.1]; omega), fun x g1 g2 => (f2 x (by rw [← hR.1]; exact Nat.lt_of_lt_of_le g1 hS.1)).trans (hS.2.1 x g1 g2), hS.2.2⟩
  obtain ⟨t, a1, b1⟩ := kk (fun q c hq => hR.lt hq) p l e R s m args below meth c Z H1 locs (cells + 3) (slots + (2 + 2 * k.toNatClampNeg)) ls hΨ (I.to hRn hSn (by omega) (by omega)) hL (pm_s3 (T.setVm vm₁) (X.2.1 3) (X.2.1 0) k.toNatClampNeg) hF X3
  refine ⟨t, ?_, b1⟩
  have hdg' : decode c.code pc = .ok (.multianewarray idx 2, 4) := by rw [I.1.2.1]; exact hdg
  have hl0 : ¬ 2 > e.platform.arrayLengthLimit := by rw [Launch.admits_arrayLengthLimit Xs.admits]; omega
  have hb0 : ¬ 2 * componentBytes (.array .int) > e.platform.maxHeapBytes := by
    rw [Launch.admits_maxHeapBytes Xs.admits]; show ¬ 2 * 4 > 536870912; omega
  have hl : ¬ k.toNatClampNeg > e.platform.arrayLengthLimit := by rw [Launch.admits_arrayLengthLimit Xs.admits]; omega
  have hb : ¬ k.toNatClampNeg * componentBytes .int > e.platform.maxHeapBytes := by
    rw [Launch.admits_maxHeapBytes Xs.admits]; show ¬ k.toNatClampNeg * 4 > 536870912; omega
  have hexec := I.1.1
  generalize hgd : F0 m pc ls (.int k :: .int 2 :: st) = g
  have hg : g.method = m := by rw [← hgd]
  have hgpc : g.pc = pc := by rw [← hgd]
  have hgst : g.stack = .int k :: .int 2 :: st := by rw [← hgd]
  have hgF : F0 m (pc + 4) ls (.ref h.2 :: st) = { g with pc := g.pc + 4, stack := .ref h.2 :: st } := by rw [← hgd]
  rw [hgF] at a1
  subst hg
  jvm_step Xs.here [hexec, hgpc, hdg']
  simp only [multianewarray.sem, wp_bind', Jvm.W.resolveClassAt_links (State.method?_setTop g Xs.here.top) hg₁]
  rw [Jvm.W.popN, if_neg (by decide)]
  refine ⟨g, State.topJava?_setTop' (s := T.setVm vm₁) g Xs.here.top, [.int 2, .int k], st, rfl, hgst, ?_⟩
  simp only [List.mapM_cons, List.mapM_nil, wp_bind', wp_pure']
  refine pm_make (kA := kA₁) (kI := kI₁) (cI := X.2.1 0) (cc := cc) hkA₁ (by rw [heA]; exact hkindA) hkI₁ (by rw [heI]; exact hkindI) hk hl0 hb0 hl hb (by show T.heap.size + 3 ≤ _; omega) (by show T.slotsUsed + 2 + _ ≤ _; omega) (fun d' acts' => ?_)
  have eS : ((T.setTop g).setVm vm₁).setTop { g with stack := st } = (T.setVm vm₁).setTop { g with stack := st } := by
    show ((T.setVm vm₁).setTop g).setTop _ = _
    rw [State.setTop_setTop]
  rw [eS, pm_top]
  simp only [wp_bind', Jvm.W.mark, Jvm.W.pushRef, State.topJava?_setTop' _ X3.here.top, Option.some.injEq, exists_eq_left', State.setTop_setTop, State.heap_setTop]
  intro acts
  simp [jvm, X3.here.top]
  have e9 : T.heap.size = h.2 := by rw [hT]; exact hR.1
  rw [← e9] at a1
  exact a1
end
