section
-- ===== PART A: goes FIRST, ahead of the names: the tables' words, and 'selects' of the private methods out of them =====
/-- a private method of a class that the tables say can be made, by its rows of tables_1 -/
def lw_okq (q : MethodName × Nat) : Prop := (q.1.cls ≠ "java/lang/invoke/MethodHandle" ∧ q.1.cls ≠ "java/lang/invoke/VarHandle") ∧ Cond.instantiable q.1.cls q.2 ∈ tables_1 ∧ Cond.privateMethod q.1 ∈ tables_1 ∧ Cond.instanceMethod q.1 ∈ tables_1
theorem lw_p0 : lw_okq (⟨"CreaseFlat", "addPaper", "(III)I"⟩, 15) := ⟨⟨by decide +kernel, by decide +kernel⟩, List.mem_of_getElem? (i := 12) (by decide +kernel), List.mem_of_getElem? (i := 151) (by decide +kernel), List.mem_of_getElem? (i := 152) (by decide +kernel)⟩
theorem lw_p1 : lw_okq (⟨"CreaseFlat$Paper", "joinFaces", "()V"⟩, 18) := ⟨⟨by decide +kernel, by decide +kernel⟩, List.mem_of_getElem? (i := 154) (by decide +kernel), List.mem_of_getElem? (i := 163) (by decide +kernel), List.mem_of_getElem? (i := 164) (by decide +kernel)⟩
theorem lw_p2 : lw_okq (⟨"CreaseFlat$Paper", "join", "(III)V"⟩, 18) := ⟨⟨by decide +kernel, by decide +kernel⟩, List.mem_of_getElem? (i := 154) (by decide +kernel), List.mem_of_getElem? (i := 167) (by decide +kernel), List.mem_of_getElem? (i := 168) (by decide +kernel)⟩
theorem lw_p3 : lw_okq (⟨"CreaseFlat$Paper", "sideOf", "(I)I"⟩, 18) := ⟨⟨by decide +kernel, by decide +kernel⟩, List.mem_of_getElem? (i := 154) (by decide +kernel), List.mem_of_getElem? (i := 179) (by decide +kernel), List.mem_of_getElem? (i := 180) (by decide +kernel)⟩
theorem lw_p4 : lw_okq (⟨"CreaseFlat$Paper", "facesOver", "(I)I"⟩, 18) := ⟨⟨by decide +kernel, by decide +kernel⟩, List.mem_of_getElem? (i := 154) (by decide +kernel), List.mem_of_getElem? (i := 183) (by decide +kernel), List.mem_of_getElem? (i := 184) (by decide +kernel)⟩
theorem lw_p5 : lw_okq (⟨"CreaseFlat$Paper", "rivalsOf", "(I)I"⟩, 18) := ⟨⟨by decide +kernel, by decide +kernel⟩, List.mem_of_getElem? (i := 154) (by decide +kernel), List.mem_of_getElem? (i := 196) (by decide +kernel), List.mem_of_getElem? (i := 197) (by decide +kernel)⟩
theorem lw_p6 : lw_okq (⟨"CreaseFlat$Paper", "onOneSide", "(II)Z"⟩, 18) := ⟨⟨by decide +kernel, by decide +kernel⟩, List.mem_of_getElem? (i := 154) (by decide +kernel), List.mem_of_getElem? (i := 200) (by decide +kernel), List.mem_of_getElem? (i := 201) (by decide +kernel)⟩
theorem lw_p7 : lw_okq (⟨"CreaseFlat$Paper", "haveFourFaces", "(II)Z"⟩, 18) := ⟨⟨by decide +kernel, by decide +kernel⟩, List.mem_of_getElem? (i := 154) (by decide +kernel), List.mem_of_getElem? (i := 204) (by decide +kernel), List.mem_of_getElem? (i := 205) (by decide +kernel)⟩
theorem lw_p8 : lw_okq (⟨"CreaseFlat", "find", "(I)LCreaseFlat$Paper;"⟩, 15) := ⟨⟨by decide +kernel, by decide +kernel⟩, List.mem_of_getElem? (i := 12) (by decide +kernel), List.mem_of_getElem? (i := 304) (by decide +kernel), List.mem_of_getElem? (i := 305) (by decide +kernel)⟩
theorem lw_p9 : lw_okq (⟨"CreaseFlat$Pile", "demandsClash", "(LCreaseFlat$Paper;)Z"⟩, 10) := ⟨⟨by decide +kernel, by decide +kernel⟩, List.mem_of_getElem? (i := 22) (by decide +kernel), List.mem_of_getElem? (i := 374) (by decide +kernel), List.mem_of_getElem? (i := 375) (by decide +kernel)⟩
theorem lw_p10 : lw_okq (⟨"CreaseFlat$Pile", "candidates", "(LCreaseFlat$Paper;)I"⟩, 10) := ⟨⟨by decide +kernel, by decide +kernel⟩, List.mem_of_getElem? (i := 22) (by decide +kernel), List.mem_of_getElem? (i := 378) (by decide +kernel), List.mem_of_getElem? (i := 379) (by decide +kernel)⟩
theorem lw_p11 : lw_okq (⟨"CreaseFlat$Pile", "barredFromClosing", "(LCreaseFlat$Paper;I)I"⟩, 10) := ⟨⟨by decide +kernel, by decide +kernel⟩, List.mem_of_getElem? (i := 22) (by decide +kernel), List.mem_of_getElem? (i := 382) (by decide +kernel), List.mem_of_getElem? (i := 383) (by decide +kernel)⟩
theorem lw_p12 : lw_okq (⟨"CreaseFlat$Pile", "readyAmong", "(LCreaseFlat$Paper;I)I"⟩, 10) := ⟨⟨by decide +kernel, by decide +kernel⟩, List.mem_of_getElem? (i := 22) (by decide +kernel), List.mem_of_getElem? (i := 386) (by decide +kernel), List.mem_of_getElem? (i := 387) (by decide +kernel)⟩
theorem lw_p13 : lw_okq (⟨"CreaseFlat$Pile", "leastUntried", "()I"⟩, 10) := ⟨⟨by decide +kernel, by decide +kernel⟩, List.mem_of_getElem? (i := 22) (by decide +kernel), List.mem_of_getElem? (i := 391) (by decide +kernel), List.mem_of_getElem? (i := 392) (by decide +kernel)⟩
theorem lw_p14 : lw_okq (⟨"CreaseFlat$Pile", "put", "(LCreaseFlat$Paper;I)V"⟩, 10) := ⟨⟨by decide +kernel, by decide +kernel⟩, List.mem_of_getElem? (i := 22) (by decide +kernel), List.mem_of_getElem? (i := 395) (by decide +kernel), List.mem_of_getElem? (i := 396) (by decide +kernel)⟩
theorem lw_p15 : lw_okq (⟨"CreaseFlat$Pile", "takeOff", "()V"⟩, 10) := ⟨⟨by decide +kernel, by decide +kernel⟩, List.mem_of_getElem? (i := 22) (by decide +kernel), List.mem_of_getElem? (i := 399) (by decide +kernel), List.mem_of_getElem? (i := 400) (by decide +kernel)⟩
def lw_privs_1 : List (MethodName × Nat) := [(⟨"CreaseFlat", "addPaper", "(III)I"⟩, 15), (⟨"CreaseFlat$Paper", "joinFaces", "()V"⟩, 18), (⟨"CreaseFlat$Paper", "join", "(III)V"⟩, 18), (⟨"CreaseFlat$Paper", "sideOf", "(I)I"⟩, 18), (⟨"CreaseFlat$Paper", "facesOver", "(I)I"⟩, 18), (⟨"CreaseFlat$Paper", "rivalsOf", "(I)I"⟩, 18), (⟨"CreaseFlat$Paper", "onOneSide", "(II)Z"⟩, 18), (⟨"CreaseFlat$Paper", "haveFourFaces", "(II)Z"⟩, 18), (⟨"CreaseFlat", "find", "(I)LCreaseFlat$Paper;"⟩, 15), (⟨"CreaseFlat$Pile", "demandsClash", "(LCreaseFlat$Paper;)Z"⟩, 10), (⟨"CreaseFlat$Pile", "candidates", "(LCreaseFlat$Paper;)I"⟩, 10), (⟨"CreaseFlat$Pile", "barredFromClosing", "(LCreaseFlat$Paper;I)I"⟩, 10), (⟨"CreaseFlat$Pile", "readyAmong", "(LCreaseFlat$Paper;I)I"⟩, 10), (⟨"CreaseFlat$Pile", "leastUntried", "()I"⟩, 10), (⟨"CreaseFlat$Pile", "put", "(LCreaseFlat$Paper;I)V"⟩, 10), (⟨"CreaseFlat$Pile", "takeOff", "()V"⟩, 10)]
theorem lw_r1 : ∀ q ∈ lw_privs_1, lw_okq q := List.forall_mem_cons.mpr ⟨lw_p0, List.forall_mem_cons.mpr ⟨lw_p1, List.forall_mem_cons.mpr ⟨lw_p2, List.forall_mem_cons.mpr ⟨lw_p3, List.forall_mem_cons.mpr ⟨lw_p4, List.forall_mem_cons.mpr ⟨lw_p5, List.forall_mem_cons.mpr ⟨lw_p6, List.forall_mem_cons.mpr ⟨lw_p7, List.forall_mem_cons.mpr ⟨lw_p8, List.forall_mem_cons.mpr ⟨lw_p9, List.forall_mem_cons.mpr ⟨lw_p10, List.forall_mem_cons.mpr ⟨lw_p11, List.forall_mem_cons.mpr ⟨lw_p12, List.forall_mem_cons.mpr ⟨lw_p13, List.forall_mem_cons.mpr ⟨lw_p14, List.forall_mem_cons.mpr ⟨lw_p15, fun _ h => absurd h List.not_mem_nil⟩⟩⟩⟩⟩⟩⟩⟩⟩⟩⟩⟩⟩⟩⟩⟩
theorem lw_p16 : lw_okq (⟨"CreaseFlat", "readOrder", "(IJ)Z"⟩, 15) := ⟨⟨by decide +kernel, by decide +kernel⟩, List.mem_of_getElem? (i := 12) (by decide +kernel), List.mem_of_getElem? (i := 438) (by decide +kernel), List.mem_of_getElem? (i := 439) (by decide +kernel)⟩
theorem lw_p17 : lw_okq (⟨"CreaseFlat$Paper", "liesWithin", "(II[I)Z"⟩, 18) := ⟨⟨by decide +kernel, by decide +kernel⟩, List.mem_of_getElem? (i := 154) (by decide +kernel), List.mem_of_getElem? (i := 456) (by decide +kernel), List.mem_of_getElem? (i := 457) (by decide +kernel)⟩
theorem lw_p18 : lw_okq (⟨"CreaseFlat", "canBecome", "(LCreaseFlat$Paper;II)Z"⟩, 15) := ⟨⟨by decide +kernel, by decide +kernel⟩, List.mem_of_getElem? (i := 12) (by decide +kernel), List.mem_of_getElem? (i := 468) (by decide +kernel), List.mem_of_getElem? (i := 469) (by decide +kernel)⟩
theorem lw_p19 : lw_okq (⟨"CreaseFlat", "canLieBelow", "(LCreaseFlat$Paper;II)Z"⟩, 15) := ⟨⟨by decide +kernel, by decide +kernel⟩, List.mem_of_getElem? (i := 12) (by decide +kernel), List.mem_of_getElem? (i := 477) (by decide +kernel), List.mem_of_getElem? (i := 478) (by decide +kernel)⟩
theorem lw_p20 : lw_okq (⟨"CreaseFlat", "allowTheSame", "(LCreaseFlat$Paper;LCreaseFlat$Paper;)Z"⟩, 15) := ⟨⟨by decide +kernel, by decide +kernel⟩, List.mem_of_getElem? (i := 12) (by decide +kernel), List.mem_of_getElem? (i := 486) (by decide +kernel), List.mem_of_getElem? (i := 487) (by decide +kernel)⟩
theorem lw_p21 : lw_okq (⟨"CreaseFlat", "isNew", "(I)Z"⟩, 15) := ⟨⟨by decide +kernel, by decide +kernel⟩, List.mem_of_getElem? (i := 12) (by decide +kernel), List.mem_of_getElem? (i := 501) (by decide +kernel), List.mem_of_getElem? (i := 502) (by decide +kernel)⟩
theorem lw_p22 : lw_okq (⟨"CreaseFlat", "allowsSome", "(LCreaseFlat$Paper;I)Z"⟩, 15) := ⟨⟨by decide +kernel, by decide +kernel⟩, List.mem_of_getElem? (i := 12) (by decide +kernel), List.mem_of_getElem? (i := 509) (by decide +kernel), List.mem_of_getElem? (i := 510) (by decide +kernel)⟩
theorem lw_p23 : lw_okq (⟨"CreaseFlat$Ways", "tryLines", "(LCreaseFlat$Paper;IILCreaseFlat$Lay;)V"⟩, 3) := ⟨⟨by decide +kernel, by decide +kernel⟩, List.mem_of_getElem? (i := 84) (by decide +kernel), List.mem_of_getElem? (i := 544) (by decide +kernel), List.mem_of_getElem? (i := 545) (by decide +kernel)⟩
theorem lw_p24 : lw_okq (⟨"CreaseFlat$Ways", "tryStep", "(LCreaseFlat$Paper;IILCreaseFlat$Lay;)V"⟩, 3) := ⟨⟨by decide +kernel, by decide +kernel⟩, List.mem_of_getElem? (i := 84) (by decide +kernel), List.mem_of_getElem? (i := 551) (by decide +kernel), List.mem_of_getElem? (i := 552) (by decide +kernel)⟩
theorem lw_p25 : lw_okq (⟨"CreaseFlat$Lay", "unfoldedAt", "(LCreaseFlat$Paper;II)I"⟩, 3) := ⟨⟨by decide +kernel, by decide +kernel⟩, List.mem_of_getElem? (i := 62) (by decide +kernel), List.mem_of_getElem? (i := 559) (by decide +kernel), List.mem_of_getElem? (i := 560) (by decide +kernel)⟩
theorem lw_p26 : lw_okq (⟨"CreaseFlat$Lay", "isWithinOne", "(LCreaseFlat$Paper;II)Z"⟩, 3) := ⟨⟨by decide +kernel, by decide +kernel⟩, List.mem_of_getElem? (i := 62) (by decide +kernel), List.mem_of_getElem? (i := 563) (by decide +kernel), List.mem_of_getElem? (i := 564) (by decide +kernel)⟩
theorem lw_p27 : lw_okq (⟨"CreaseFlat$Lay", "marksAllow", "(LCreaseFlat$Paper;IZ)Z"⟩, 3) := ⟨⟨by decide +kernel, by decide +kernel⟩, List.mem_of_getElem? (i := 62) (by decide +kernel), List.mem_of_getElem? (i := 568) (by decide +kernel), List.mem_of_getElem? (i := 569) (by decide +kernel)⟩
theorem lw_p28 : lw_okq (⟨"CreaseFlatModel", "add", "(II)I"⟩, 29) := ⟨⟨by decide +kernel, by decide +kernel⟩, List.mem_of_getElem? (i := 604) (by decide +kernel), List.mem_of_getElem? (i := 704) (by decide +kernel), List.mem_of_getElem? (i := 705) (by decide +kernel)⟩
theorem lw_p29 : lw_okq (⟨"CreaseFlatModel", "addCrease", "(III)V"⟩, 29) := ⟨⟨by decide +kernel, by decide +kernel⟩, List.mem_of_getElem? (i := 604) (by decide +kernel), List.mem_of_getElem? (i := 708) (by decide +kernel), List.mem_of_getElem? (i := 709) (by decide +kernel)⟩
theorem lw_p30 : lw_okq (⟨"CreaseFlatModel", "hasFace", "(II)Z"⟩, 29) := ⟨⟨by decide +kernel, by decide +kernel⟩, List.mem_of_getElem? (i := 604) (by decide +kernel), List.mem_of_getElem? (i := 724) (by decide +kernel), List.mem_of_getElem? (i := 725) (by decide +kernel)⟩
theorem lw_p31 : lw_okq (⟨"CreaseFlatModel", "has", "(I)Z"⟩, 29) := ⟨⟨by decide +kernel, by decide +kernel⟩, List.mem_of_getElem? (i := 604) (by decide +kernel), List.mem_of_getElem? (i := 728) (by decide +kernel), List.mem_of_getElem? (i := 729) (by decide +kernel)⟩
def lw_privs_2 : List (MethodName × Nat) := [(⟨"CreaseFlat", "readOrder", "(IJ)Z"⟩, 15), (⟨"CreaseFlat$Paper", "liesWithin", "(II[I)Z"⟩, 18), (⟨"CreaseFlat", "canBecome", "(LCreaseFlat$Paper;II)Z"⟩, 15), (⟨"CreaseFlat", "canLieBelow", "(LCreaseFlat$Paper;II)Z"⟩, 15), (⟨"CreaseFlat", "allowTheSame", "(LCreaseFlat$Paper;LCreaseFlat$Paper;)Z"⟩, 15), (⟨"CreaseFlat", "isNew", "(I)Z"⟩, 15), (⟨"CreaseFlat", "allowsSome", "(LCreaseFlat$Paper;I)Z"⟩, 15), (⟨"CreaseFlat$Ways", "tryLines", "(LCreaseFlat$Paper;IILCreaseFlat$Lay;)V"⟩, 3), (⟨"CreaseFlat$Ways", "tryStep", "(LCreaseFlat$Paper;IILCreaseFlat$Lay;)V"⟩, 3), (⟨"CreaseFlat$Lay", "unfoldedAt", "(LCreaseFlat$Paper;II)I"⟩, 3), (⟨"CreaseFlat$Lay", "isWithinOne", "(LCreaseFlat$Paper;II)Z"⟩, 3), (⟨"CreaseFlat$Lay", "marksAllow", "(LCreaseFlat$Paper;IZ)Z"⟩, 3), (⟨"CreaseFlatModel", "add", "(II)I"⟩, 29), (⟨"CreaseFlatModel", "addCrease", "(III)V"⟩, 29), (⟨"CreaseFlatModel", "hasFace", "(II)Z"⟩, 29), (⟨"CreaseFlatModel", "has", "(I)Z"⟩, 29)]
theorem lw_r2 : ∀ q ∈ lw_privs_2, lw_okq q := List.forall_mem_cons.mpr ⟨lw_p16, List.forall_mem_cons.mpr ⟨lw_p17, List.forall_mem_cons.mpr ⟨lw_p18, List.forall_mem_cons.mpr ⟨lw_p19, List.forall_mem_cons.mpr ⟨lw_p20, List.forall_mem_cons.mpr ⟨lw_p21, List.forall_mem_cons.mpr ⟨lw_p22, List.forall_mem_cons.mpr ⟨lw_p23, List.forall_mem_cons.mpr ⟨lw_p24, List.forall_mem_cons.mpr ⟨lw_p25, List.forall_mem_cons.mpr ⟨lw_p26, List.forall_mem_cons.mpr ⟨lw_p27, List.forall_mem_cons.mpr ⟨lw_p28, List.forall_mem_cons.mpr ⟨lw_p29, List.forall_mem_cons.mpr ⟨lw_p30, List.forall_mem_cons.mpr ⟨lw_p31, fun _ h => absurd h List.not_mem_nil⟩⟩⟩⟩⟩⟩⟩⟩⟩⟩⟩⟩⟩⟩⟩⟩
theorem lw_p32 : lw_okq (⟨"CreaseFlatModel", "hasCrease", "(II)Z"⟩, 29) := ⟨⟨by decide +kernel, by decide +kernel⟩, List.mem_of_getElem? (i := 604) (by decide +kernel), List.mem_of_getElem? (i := 736) (by decide +kernel), List.mem_of_getElem? (i := 737) (by decide +kernel)⟩
theorem lw_p33 : lw_okq (⟨"CreaseFlatModel", "marked", "(II)I"⟩, 29) := ⟨⟨by decide +kernel, by decide +kernel⟩, List.mem_of_getElem? (i := 604) (by decide +kernel), List.mem_of_getElem? (i := 744) (by decide +kernel), List.mem_of_getElem? (i := 745) (by decide +kernel)⟩
theorem lw_p34 : lw_okq (⟨"CreaseFlatModel", "uneven", "(I)I"⟩, 29) := ⟨⟨by decide +kernel, by decide +kernel⟩, List.mem_of_getElem? (i := 604) (by decide +kernel), List.mem_of_getElem? (i := 748) (by decide +kernel), List.mem_of_getElem? (i := 749) (by decide +kernel)⟩
theorem lw_p35 : lw_okq (⟨"CreaseFlatModel", "placeOf", "(II)I"⟩, 29) := ⟨⟨by decide +kernel, by decide +kernel⟩, List.mem_of_getElem? (i := 604) (by decide +kernel), List.mem_of_getElem? (i := 756) (by decide +kernel), List.mem_of_getElem? (i := 757) (by decide +kernel)⟩
theorem lw_p36 : lw_okq (⟨"CreaseFlatModel", "begins", "(II)I"⟩, 29) := ⟨⟨by decide +kernel, by decide +kernel⟩, List.mem_of_getElem? (i := 604) (by decide +kernel), List.mem_of_getElem? (i := 760) (by decide +kernel), List.mem_of_getElem? (i := 761) (by decide +kernel)⟩
theorem lw_p37 : lw_okq (⟨"CreaseFlatModel", "begin", "(I)V"⟩, 29) := ⟨⟨by decide +kernel, by decide +kernel⟩, List.mem_of_getElem? (i := 604) (by decide +kernel), List.mem_of_getElem? (i := 768) (by decide +kernel), List.mem_of_getElem? (i := 769) (by decide +kernel)⟩
theorem lw_p38 : lw_okq (⟨"CreaseFlatModel", "next", "()Z"⟩, 29) := ⟨⟨by decide +kernel, by decide +kernel⟩, List.mem_of_getElem? (i := 604) (by decide +kernel), List.mem_of_getElem? (i := 772) (by decide +kernel), List.mem_of_getElem? (i := 773) (by decide +kernel)⟩
theorem lw_p39 : lw_okq (⟨"CreaseFlatModel", "isFine", "(I)Z"⟩, 29) := ⟨⟨by decide +kernel, by decide +kernel⟩, List.mem_of_getElem? (i := 604) (by decide +kernel), List.mem_of_getElem? (i := 776) (by decide +kernel), List.mem_of_getElem? (i := 777) (by decide +kernel)⟩
theorem lw_p40 : lw_okq (⟨"CreaseFlatModel", "isClosed", "(III)Z"⟩, 29) := ⟨⟨by decide +kernel, by decide +kernel⟩, List.mem_of_getElem? (i := 604) (by decide +kernel), List.mem_of_getElem? (i := 780) (by decide +kernel), List.mem_of_getElem? (i := 781) (by decide +kernel)⟩
theorem lw_p41 : lw_okq (⟨"CreaseFlatModel", "markIn", "(I)I"⟩, 29) := ⟨⟨by decide +kernel, by decide +kernel⟩, List.mem_of_getElem? (i := 604) (by decide +kernel), List.mem_of_getElem? (i := 784) (by decide +kernel), List.mem_of_getElem? (i := 785) (by decide +kernel)⟩
theorem lw_p42 : lw_okq (⟨"CreaseFlatModel", "isUp", "(II)Z"⟩, 29) := ⟨⟨by decide +kernel, by decide +kernel⟩, List.mem_of_getElem? (i := 604) (by decide +kernel), List.mem_of_getElem? (i := 788) (by decide +kernel), List.mem_of_getElem? (i := 789) (by decide +kernel)⟩
theorem lw_p43 : lw_okq (⟨"CreaseFlatModel", "isOneSide", "(II)Z"⟩, 29) := ⟨⟨by decide +kernel, by decide +kernel⟩, List.mem_of_getElem? (i := 604) (by decide +kernel), List.mem_of_getElem? (i := 798) (by decide +kernel), List.mem_of_getElem? (i := 799) (by decide +kernel)⟩
theorem lw_p44 : lw_okq (⟨"CreaseFlatModel", "isFour", "(II)Z"⟩, 29) := ⟨⟨by decide +kernel, by decide +kernel⟩, List.mem_of_getElem? (i := 604) (by decide +kernel), List.mem_of_getElem? (i := 802) (by decide +kernel), List.mem_of_getElem? (i := 803) (by decide +kernel)⟩
theorem lw_p45 : lw_okq (⟨"CreaseFlatModel", "isWithin", "(II)Z"⟩, 29) := ⟨⟨by decide +kernel, by decide +kernel⟩, List.mem_of_getElem? (i := 604) (by decide +kernel), List.mem_of_getElem? (i := 806) (by decide +kernel), List.mem_of_getElem? (i := 807) (by decide +kernel)⟩
theorem lw_p46 : lw_okq (⟨"CreaseFlatModel", "number", "()J"⟩, 29) := ⟨⟨by decide +kernel, by decide +kernel⟩, List.mem_of_getElem? (i := 604) (by decide +kernel), List.mem_of_getElem? (i := 827) (by decide +kernel), List.mem_of_getElem? (i := 828) (by decide +kernel)⟩
theorem lw_p47 : lw_okq (⟨"CreaseFlatModel", "isBetween", "(II)Z"⟩, 29) := ⟨⟨by decide +kernel, by decide +kernel⟩, List.mem_of_getElem? (i := 604) (by decide +kernel), List.mem_of_getElem? (i := 838) (by decide +kernel), List.mem_of_getElem? (i := 839) (by decide +kernel)⟩
def lw_privs_3 : List (MethodName × Nat) := [(⟨"CreaseFlatModel", "hasCrease", "(II)Z"⟩, 29), (⟨"CreaseFlatModel", "marked", "(II)I"⟩, 29), (⟨"CreaseFlatModel", "uneven", "(I)I"⟩, 29), (⟨"CreaseFlatModel", "placeOf", "(II)I"⟩, 29), (⟨"CreaseFlatModel", "begins", "(II)I"⟩, 29), (⟨"CreaseFlatModel", "begin", "(I)V"⟩, 29), (⟨"CreaseFlatModel", "next", "()Z"⟩, 29), (⟨"CreaseFlatModel", "isFine", "(I)Z"⟩, 29), (⟨"CreaseFlatModel", "isClosed", "(III)Z"⟩, 29), (⟨"CreaseFlatModel", "markIn", "(I)I"⟩, 29), (⟨"CreaseFlatModel", "isUp", "(II)Z"⟩, 29), (⟨"CreaseFlatModel", "isOneSide", "(II)Z"⟩, 29), (⟨"CreaseFlatModel", "isFour", "(II)Z"⟩, 29), (⟨"CreaseFlatModel", "isWithin", "(II)Z"⟩, 29), (⟨"CreaseFlatModel", "number", "()J"⟩, 29), (⟨"CreaseFlatModel", "isBetween", "(II)Z"⟩, 29)]
theorem lw_r3 : ∀ q ∈ lw_privs_3, lw_okq q := List.forall_mem_cons.mpr ⟨lw_p32, List.forall_mem_cons.mpr ⟨lw_p33, List.forall_mem_cons.mpr ⟨lw_p34, List.forall_mem_cons.mpr ⟨lw_p35, List.forall_mem_cons.mpr ⟨lw_p36, List.forall_mem_cons.mpr ⟨lw_p37, List.forall_mem_cons.mpr ⟨lw_p38, List.forall_mem_cons.mpr ⟨lw_p39, List.forall_mem_cons.mpr ⟨lw_p40, List.forall_mem_cons.mpr ⟨lw_p41, List.forall_mem_cons.mpr ⟨lw_p42, List.forall_mem_cons.mpr ⟨lw_p43, List.forall_mem_cons.mpr ⟨lw_p44, List.forall_mem_cons.mpr ⟨lw_p45, List.forall_mem_cons.mpr ⟨lw_p46, List.forall_mem_cons.mpr ⟨lw_p47, fun _ h => absurd h List.not_mem_nil⟩⟩⟩⟩⟩⟩⟩⟩⟩⟩⟩⟩⟩⟩⟩⟩
theorem lw_p48 : lw_okq (⟨"CreaseFlatModel", "isAllowed", "(I)Z"⟩, 29) := ⟨⟨by decide +kernel, by decide +kernel⟩, List.mem_of_getElem? (i := 604) (by decide +kernel), List.mem_of_getElem? (i := 864) (by decide +kernel), List.mem_of_getElem? (i := 865) (by decide +kernel)⟩
theorem lw_p49 : lw_okq (⟨"CreaseFlatModel", "gapsOf", "(IZ)I"⟩, 29) := ⟨⟨by decide +kernel, by decide +kernel⟩, List.mem_of_getElem? (i := 604) (by decide +kernel), List.mem_of_getElem? (i := 876) (by decide +kernel), List.mem_of_getElem? (i := 877) (by decide +kernel)⟩
theorem lw_p50 : lw_okq (⟨"CreaseFlatModel", "stateOf", "(II)I"⟩, 29) := ⟨⟨by decide +kernel, by decide +kernel⟩, List.mem_of_getElem? (i := 604) (by decide +kernel), List.mem_of_getElem? (i := 880) (by decide +kernel), List.mem_of_getElem? (i := 881) (by decide +kernel)⟩
theorem lw_p51 : lw_okq (⟨"CreaseFlatModel", "best", "(IIIIIZ)I"⟩, 29) := ⟨⟨by decide +kernel, by decide +kernel⟩, List.mem_of_getElem? (i := 604) (by decide +kernel), List.mem_of_getElem? (i := 884) (by decide +kernel), List.mem_of_getElem? (i := 885) (by decide +kernel)⟩
theorem lw_p52 : lw_okq (⟨"CreaseFlatModel", "liesAt", "(III)I"⟩, 29) := ⟨⟨by decide +kernel, by decide +kernel⟩, List.mem_of_getElem? (i := 604) (by decide +kernel), List.mem_of_getElem? (i := 888) (by decide +kernel), List.mem_of_getElem? (i := 889) (by decide +kernel)⟩
theorem lw_p53 : lw_okq (⟨"CreaseFlatModel", "lengthOf", "(II)I"⟩, 29) := ⟨⟨by decide +kernel, by decide +kernel⟩, List.mem_of_getElem? (i := 604) (by decide +kernel), List.mem_of_getElem? (i := 895) (by decide +kernel), List.mem_of_getElem? (i := 896) (by decide +kernel)⟩
theorem lw_p54 : lw_okq (⟨"CreaseFlatModel", "done", "(IIII)I"⟩, 29) := ⟨⟨by decide +kernel, by decide +kernel⟩, List.mem_of_getElem? (i := 604) (by decide +kernel), List.mem_of_getElem? (i := 899) (by decide +kernel), List.mem_of_getElem? (i := 900) (by decide +kernel)⟩
theorem lw_p55 : lw_okq (⟨"CreaseFlatModel", "creasesIn", "(IIZ)I"⟩, 29) := ⟨⟨by decide +kernel, by decide +kernel⟩, List.mem_of_getElem? (i := 604) (by decide +kernel), List.mem_of_getElem? (i := 911) (by decide +kernel), List.mem_of_getElem? (i := 912) (by decide +kernel)⟩
def lw_privs_4 : List (MethodName × Nat) := [(⟨"CreaseFlatModel", "isAllowed", "(I)Z"⟩, 29), (⟨"CreaseFlatModel", "gapsOf", "(IZ)I"⟩, 29), (⟨"CreaseFlatModel", "stateOf", "(II)I"⟩, 29), (⟨"CreaseFlatModel", "best", "(IIIIIZ)I"⟩, 29), (⟨"CreaseFlatModel", "liesAt", "(III)I"⟩, 29), (⟨"CreaseFlatModel", "lengthOf", "(II)I"⟩, 29), (⟨"CreaseFlatModel", "done", "(IIII)I"⟩, 29), (⟨"CreaseFlatModel", "creasesIn", "(IIZ)I"⟩, 29)]
theorem lw_r4 : ∀ q ∈ lw_privs_4, lw_okq q := List.forall_mem_cons.mpr ⟨lw_p48, List.forall_mem_cons.mpr ⟨lw_p49, List.forall_mem_cons.mpr ⟨lw_p50, List.forall_mem_cons.mpr ⟨lw_p51, List.forall_mem_cons.mpr ⟨lw_p52, List.forall_mem_cons.mpr ⟨lw_p53, List.forall_mem_cons.mpr ⟨lw_p54, List.forall_mem_cons.mpr ⟨lw_p55, fun _ h => absurd h List.not_mem_nil⟩⟩⟩⟩⟩⟩⟩⟩
def lw_privs : List (MethodName × Nat) := lw_privs_1 ++ (lw_privs_2 ++ (lw_privs_3 ++ (lw_privs_4)))
def lw_tbl : List Cond := k2_sels lw_privs ++ tables_1
theorem lw_privs_ok : ∀ q ∈ lw_privs, lw_okq q := by
  show ∀ q ∈ lw_privs_1 ++ (lw_privs_2 ++ (lw_privs_3 ++ (lw_privs_4))), lw_okq q
  exact List.forall_mem_append.mpr ⟨lw_r1, List.forall_mem_append.mpr ⟨lw_r2, List.forall_mem_append.mpr ⟨lw_r3, lw_r4⟩⟩⟩
end
section
/-! ===== BEGIN printed: names, fields, word lists, decode rows ===== -/
def RX0 : String := "CreaseFlat$Lay"
def TX0 : u_T := fun k => match k with
  | 0 => ("CreaseFlat$Lay", "folded", "I", false)
  | 1 => ("CreaseFlat$Lay", "edges", "[[I", true)
  | _ => ("CreaseFlat$Lay", "turns", "[[I", true)
def tyX0 : Nat → FieldType := fun k => match k with
  | 0 => .int
  | 1 => .array (.array .int)
  | _ => .array (.array .int)
abbrev wsX00 : List Cond := u_ws RX0 TX0 3
theorem nmX0 : ∀ a, a < 3 → ∀ b, b < 3 → a ≠ b → (TX0 a).2.1 ≠ (TX0 b).2.1 := by decide +kernel
theorem tyX0_ok : ∀ k, k < 3 → parseFieldDescriptor (TX0 k).2.2.1 = some (tyX0 k) := by decide +kernel
abbrev cX0_init : ByteArray := prog_2_method_1_code
def yX0_init : MethodName := ⟨RX0, "<init>", "()V"⟩
abbrev cX0_put : ByteArray := prog_2_method_2_code
def yX0_put : MethodName := ⟨RX0, "put", "(LCreaseFlat$Paper;I)V"⟩
abbrev cX0_bands : ByteArray := prog_2_method_3_code
def yX0_bands : MethodName := ⟨RX0, "bands", "(LCreaseFlat$Paper;I)I"⟩
abbrev cX0_lineBehind : ByteArray := prog_2_method_4_code
def yX0_lineBehind : MethodName := ⟨RX0, "lineBehind", "(LCreaseFlat$Paper;II)I"⟩
abbrev cX0_isFrontUp : ByteArray := prog_2_method_5_code
def yX0_isFrontUp : MethodName := ⟨RX0, "isFrontUp", "(LCreaseFlat$Paper;I)Z"⟩
abbrev cX0_linesFoldedBy : ByteArray := prog_2_method_6_code
def yX0_linesFoldedBy : MethodName := ⟨RX0, "linesFoldedBy", "(LCreaseFlat$Paper;I)I"⟩
abbrev cX0_unfoldedAt : ByteArray := prog_2_method_7_code
def yX0_unfoldedAt : MethodName := ⟨RX0, "unfoldedAt", "(LCreaseFlat$Paper;II)I"⟩
abbrev cX0_isWithinOne : ByteArray := prog_2_method_8_code
def yX0_isWithinOne : MethodName := ⟨RX0, "isWithinOne", "(LCreaseFlat$Paper;II)Z"⟩
abbrev cX0_marksAllow : ByteArray := prog_2_method_9_code
def yX0_marksAllow : MethodName := ⟨RX0, "marksAllow", "(LCreaseFlat$Paper;IZ)Z"⟩
def RX1 : String := "CreaseFlat$Paper"
def TX1 : u_T := fun k => match k with
  | 0 => ("CreaseFlat$Paper", "kind", "I", true)
  | 1 => ("CreaseFlat$Paper", "rows", "I", true)
  | 2 => ("CreaseFlat$Paper", "columns", "I", true)
  | 3 => ("CreaseFlat$Paper", "faces", "I", true)
  | 4 => ("CreaseFlat$Paper", "creases", "I", false)
  | 5 => ("CreaseFlat$Paper", "rowOf", "[I", true)
  | 6 => ("CreaseFlat$Paper", "columnOf", "[I", true)
  | 7 => ("CreaseFlat$Paper", "lengths", "[I", true)
  | 8 => ("CreaseFlat$Paper", "edges", "[I", true)
  | 9 => ("CreaseFlat$Paper", "firsts", "[I", true)
  | 10 => ("CreaseFlat$Paper", "seconds", "[I", true)
  | 11 => ("CreaseFlat$Paper", "lineOf", "[I", true)
  | 12 => ("CreaseFlat$Paper", "marks", "[I", true)
  | 13 => ("CreaseFlat$Paper", "places", "[I", true)
  | 14 => ("CreaseFlat$Paper", "through", "[I", true)
  | 15 => ("CreaseFlat$Paper", "across", "[I", true)
  | 16 => ("CreaseFlat$Paper", "touching", "[I", true)
  | _ => ("CreaseFlat$Paper", "folded", "I", false)
def tyX1 : Nat → FieldType := fun k => match k with
  | 0 => .int
  | 1 => .int
  | 2 => .int
  | 3 => .int
  | 4 => .int
  | 5 => .array .int
  | 6 => .array .int
  | 7 => .array .int
  | 8 => .array .int
  | 9 => .array .int
  | 10 => .array .int
  | 11 => .array .int
  | 12 => .array .int
  | 13 => .array .int
  | 14 => .array .int
  | 15 => .array .int
  | 16 => .array .int
  | _ => .int
abbrev wsX10 : List Cond := u_ws RX1 TX1 18
theorem nmX1 : ∀ a, a < 18 → ∀ b, b < 18 → a ≠ b → (TX1 a).2.1 ≠ (TX1 b).2.1 := by decide +kernel
theorem tyX1_ok : ∀ k, k < 18 → parseFieldDescriptor (TX1 k).2.2.1 = some (tyX1 k) := by decide +kernel
abbrev cX1_init : ByteArray := prog_3_method_1_code
def yX1_init : MethodName := ⟨RX1, "<init>", "(III)V"⟩
abbrev cX1_joinFaces : ByteArray := prog_3_method_2_code
def yX1_joinFaces : MethodName := ⟨RX1, "joinFaces", "()V"⟩
abbrev cX1_join : ByteArray := prog_3_method_3_code
def yX1_join : MethodName := ⟨RX1, "join", "(III)V"⟩
abbrev cX1_measure : ByteArray := prog_3_method_4_code
def yX1_measure : MethodName := ⟨RX1, "measure", "()V"⟩
abbrev cX1_sideOf : ByteArray := prog_3_method_5_code
def yX1_sideOf : MethodName := ⟨RX1, "sideOf", "(I)I"⟩
abbrev cX1_facesOver : ByteArray := prog_3_method_6_code
def yX1_facesOver : MethodName := ⟨RX1, "facesOver", "(I)I"⟩
abbrev cX1_rivalsOf : ByteArray := prog_3_method_7_code
def yX1_rivalsOf : MethodName := ⟨RX1, "rivalsOf", "(I)I"⟩
abbrev cX1_onOneSide : ByteArray := prog_3_method_8_code
def yX1_onOneSide : MethodName := ⟨RX1, "onOneSide", "(II)Z"⟩
abbrev cX1_haveFourFaces : ByteArray := prog_3_method_9_code
def yX1_haveFourFaces : MethodName := ⟨RX1, "haveFourFaces", "(II)Z"⟩
abbrev cX1_hasFace : ByteArray := prog_3_method_10_code
def yX1_hasFace : MethodName := ⟨RX1, "hasFace", "(I)Z"⟩
abbrev cX1_hasCrease : ByteArray := prog_3_method_11_code
def yX1_hasCrease : MethodName := ⟨RX1, "hasCrease", "(I)Z"⟩
abbrev cX1_isFrontUp : ByteArray := prog_3_method_12_code
def yX1_isFrontUp : MethodName := ⟨RX1, "isFrontUp", "(I)Z"⟩
abbrev cX1_isUneven : ByteArray := prog_3_method_13_code
def yX1_isUneven : MethodName := ⟨RX1, "isUneven", "()Z"⟩
abbrev cX1_marked : ByteArray := prog_3_method_14_code
def yX1_marked : MethodName := ⟨RX1, "marked", "(I)I"⟩
abbrev cX1_becomes : ByteArray := prog_3_method_15_code
def yX1_becomes : MethodName := ⟨RX1, "becomes", "(I[I)I"⟩
abbrev cX1_valleysIn : ByteArray := prog_3_method_16_code
def yX1_valleysIn : MethodName := ⟨RX1, "valleysIn", "([I)I"⟩
abbrev cX1_brokenMark : ByteArray := prog_3_method_17_code
def yX1_brokenMark : MethodName := ⟨RX1, "brokenMark", "([I)I"⟩
abbrev cX1_brokenThrough : ByteArray := prog_3_method_18_code
def yX1_brokenThrough : MethodName := ⟨RX1, "brokenThrough", "([I)I"⟩
abbrev cX1_brokenAcross : ByteArray := prog_3_method_19_code
def yX1_brokenAcross : MethodName := ⟨RX1, "brokenAcross", "([I)I"⟩
abbrev cX1_liesWithin : ByteArray := prog_3_method_20_code
def yX1_liesWithin : MethodName := ⟨RX1, "liesWithin", "(II[I)Z"⟩
abbrev cX1_isBetween : ByteArray := prog_3_method_21_code
def yX1_isBetween : MethodName := ⟨RX1, "isBetween", "(III)Z"⟩
abbrev cX1_allLines : ByteArray := prog_3_method_22_code
def yX1_allLines : MethodName := ⟨RX1, "allLines", "()I"⟩
abbrev cX1_creasesOn : ByteArray := prog_3_method_23_code
def yX1_creasesOn : MethodName := ⟨RX1, "creasesOn", "(I)I"⟩
def RX2 : String := "CreaseFlat$Pile"
def TX2 : u_T := fun k => match k with
  | 0 => ("CreaseFlat$Pile", "paper", "LCreaseFlat$Paper;", false)
  | 1 => ("CreaseFlat$Pile", "stack", "[I", true)
  | 2 => ("CreaseFlat$Pile", "heights", "[I", true)
  | 3 => ("CreaseFlat$Pile", "size", "I", false)
  | 4 => ("CreaseFlat$Pile", "inPile", "I", false)
  | 5 => ("CreaseFlat$Pile", "below", "[I", true)
  | 6 => ("CreaseFlat$Pile", "demanding", "I", false)
  | 7 => ("CreaseFlat$Pile", "open", "[I", true)
  | 8 => ("CreaseFlat$Pile", "untried", "[I", true)
  | _ => ("CreaseFlat$Pile", "begun", "Z", false)
def tyX2 : Nat → FieldType := fun k => match k with
  | 0 => .object "CreaseFlat$Paper"
  | 1 => .array .int
  | 2 => .array .int
  | 3 => .int
  | 4 => .int
  | 5 => .array .int
  | 6 => .int
  | 7 => .array .int
  | 8 => .array .int
  | _ => .boolean
abbrev wsX20 : List Cond := u_ws RX2 TX2 10
theorem nmX2 : ∀ a, a < 10 → ∀ b, b < 10 → a ≠ b → (TX2 a).2.1 ≠ (TX2 b).2.1 := by decide +kernel
theorem tyX2_ok : ∀ k, k < 10 → parseFieldDescriptor (TX2 k).2.2.1 = some (tyX2 k) := by decide +kernel
abbrev cX2_init : ByteArray := prog_4_method_1_code
def yX2_init : MethodName := ⟨RX2, "<init>", "()V"⟩
abbrev cX2_begin : ByteArray := prog_4_method_2_code
def yX2_begin : MethodName := ⟨RX2, "begin", "(LCreaseFlat$Paper;)V"⟩
abbrev cX2_beginWith : ByteArray := prog_4_method_3_code
def yX2_beginWith : MethodName := ⟨RX2, "beginWith", "(LCreaseFlat$Paper;I)V"⟩
abbrev cX2_demandTurn : ByteArray := prog_4_method_4_code
def yX2_demandTurn : MethodName := ⟨RX2, "demandTurn", "(II)V"⟩
abbrev cX2_demandBelow : ByteArray := prog_4_method_5_code
def yX2_demandBelow : MethodName := ⟨RX2, "demandBelow", "(II)V"⟩
abbrev cX2_next : ByteArray := prog_4_method_6_code
def yX2_next : MethodName := ⟨RX2, "next", "()Z"⟩
abbrev cX2_asNumber : ByteArray := prog_4_method_7_code
def yX2_asNumber : MethodName := ⟨RX2, "asNumber", "()J"⟩
abbrev cX2_demandsClash : ByteArray := prog_4_method_8_code
def yX2_demandsClash : MethodName := ⟨RX2, "demandsClash", "(LCreaseFlat$Paper;)Z"⟩
abbrev cX2_leastUntried : ByteArray := prog_4_method_9_code
def yX2_leastUntried : MethodName := ⟨RX2, "leastUntried", "()I"⟩
abbrev cX2_put : ByteArray := prog_4_method_10_code
def yX2_put : MethodName := ⟨RX2, "put", "(LCreaseFlat$Paper;I)V"⟩
abbrev cX2_takeOff : ByteArray := prog_4_method_11_code
def yX2_takeOff : MethodName := ⟨RX2, "takeOff", "()V"⟩
abbrev cX2_candidates : ByteArray := prog_4_method_12_code
def yX2_candidates : MethodName := ⟨RX2, "candidates", "(LCreaseFlat$Paper;)I"⟩
abbrev cX2_readyAmong : ByteArray := prog_4_method_13_code
def yX2_readyAmong : MethodName := ⟨RX2, "readyAmong", "(LCreaseFlat$Paper;I)I"⟩
abbrev cX2_barredFromClosing : ByteArray := prog_4_method_14_code
def yX2_barredFromClosing : MethodName := ⟨RX2, "barredFromClosing", "(LCreaseFlat$Paper;I)I"⟩
def RX3 : String := "CreaseFlat$Ways"
def TX3 : u_T := fun k => match k with
  | 0 => ("CreaseFlat$Ways", "fewest", "[I", true)
  | 1 => ("CreaseFlat$Ways", "firstSteps", "[I", true)
  | _ => ("CreaseFlat$Ways", "nexts", "[I", true)
def tyX3 : Nat → FieldType := fun k => match k with
  | 0 => .array .int
  | 1 => .array .int
  | _ => .array .int
abbrev wsX30 : List Cond := u_ws RX3 TX3 3
theorem nmX3 : ∀ a, a < 3 → ∀ b, b < 3 → a ≠ b → (TX3 a).2.1 ≠ (TX3 b).2.1 := by decide +kernel
theorem tyX3_ok : ∀ k, k < 3 → parseFieldDescriptor (TX3 k).2.2.1 = some (tyX3 k) := by decide +kernel
abbrev cX3_init : ByteArray := prog_5_method_1_code
def yX3_init : MethodName := ⟨RX3, "<init>", "()V"⟩
abbrev cX3_explore : ByteArray := prog_5_method_2_code
def yX3_explore : MethodName := ⟨RX3, "explore", "(LCreaseFlat$Paper;LCreaseFlat$Lay;)V"⟩
abbrev cX3_tryLines : ByteArray := prog_5_method_3_code
def yX3_tryLines : MethodName := ⟨RX3, "tryLines", "(LCreaseFlat$Paper;IILCreaseFlat$Lay;)V"⟩
abbrev cX3_tryStep : ByteArray := prog_5_method_4_code
def yX3_tryStep : MethodName := ⟨RX3, "tryStep", "(LCreaseFlat$Paper;IILCreaseFlat$Lay;)V"⟩
abbrev cX3_trace : ByteArray := prog_5_method_5_code
def yX3_trace : MethodName := ⟨RX3, "trace", "(I[I)I"⟩
def RX4 : String := "CreaseFlat"
def TX4 : u_T := fun k => match k with
  | 0 => ("CreaseFlat", "papers", "[LCreaseFlat$Paper;", true)
  | 1 => ("CreaseFlat", "paperCount", "I", false)
  | 2 => ("CreaseFlat", "pile", "LCreaseFlat$Pile;", true)
  | 3 => ("CreaseFlat", "otherPile", "LCreaseFlat$Pile;", true)
  | 4 => ("CreaseFlat", "toldPaper", "LCreaseFlat$Paper;", false)
  | 5 => ("CreaseFlat", "toldFaces", "[I", true)
  | 6 => ("CreaseFlat", "toldHeights", "[I", true)
  | 7 => ("CreaseFlat", "readHeights", "[I", true)
  | 8 => ("CreaseFlat", "met", "[J", true)
  | 9 => ("CreaseFlat", "clashing", "[I", true)
  | 10 => ("CreaseFlat", "clashCount", "I", false)
  | 11 => ("CreaseFlat", "lay", "LCreaseFlat$Lay;", true)
  | 12 => ("CreaseFlat", "ways", "LCreaseFlat$Ways;", true)
  | 13 => ("CreaseFlat", "toldSteps", "[I", true)
  | _ => ("CreaseFlat", "stepCount", "I", false)
def tyX4 : Nat → FieldType := fun k => match k with
  | 0 => .array (.object "CreaseFlat$Paper")
  | 1 => .int
  | 2 => .object "CreaseFlat$Pile"
  | 3 => .object "CreaseFlat$Pile"
  | 4 => .object "CreaseFlat$Paper"
  | 5 => .array .int
  | 6 => .array .int
  | 7 => .array .int
  | 8 => .array .long
  | 9 => .array .int
  | 10 => .int
  | 11 => .object "CreaseFlat$Lay"
  | 12 => .object "CreaseFlat$Ways"
  | 13 => .array .int
  | _ => .int
abbrev wsX40 : List Cond := u_ws RX4 TX4 15
theorem nmX4 : ∀ a, a < 15 → ∀ b, b < 15 → a ≠ b → (TX4 a).2.1 ≠ (TX4 b).2.1 := by decide +kernel
theorem tyX4_ok : ∀ k, k < 15 → parseFieldDescriptor (TX4 k).2.2.1 = some (tyX4 k) := by decide +kernel
abbrev cX4_init : ByteArray := prog_1_method_1_code
def yX4_init : MethodName := ⟨RX4, "<init>", "()V"⟩
abbrev cX4_strip : ByteArray := prog_1_method_2_code
def yX4_strip : MethodName := ⟨RX4, "strip", "(I)I"⟩
abbrev cX4_corner : ByteArray := prog_1_method_3_code
def yX4_corner : MethodName := ⟨RX4, "corner", "(I)I"⟩
abbrev cX4_map : ByteArray := prog_1_method_4_code
def yX4_map : MethodName := ⟨RX4, "map", "(II)I"⟩
abbrev cX4_length : ByteArray := prog_1_method_5_code
def yX4_length : MethodName := ⟨RX4, "length", "(III)I"⟩
abbrev cX4_mark : ByteArray := prog_1_method_6_code
def yX4_mark : MethodName := ⟨RX4, "mark", "(III)I"⟩
abbrev cX4_about : ByteArray := prog_1_method_7_code
def yX4_about : MethodName := ⟨RX4, "about", "(II)I"⟩
abbrev cX4_crease : ByteArray := prog_1_method_8_code
def yX4_crease : MethodName := ⟨RX4, "crease", "(III)I"⟩
abbrev cX4_judge : ByteArray := prog_1_method_9_code
def yX4_judge : MethodName := ⟨RX4, "judge", "(I)I"⟩
abbrev cX4_layer : ByteArray := prog_1_method_10_code
def yX4_layer : MethodName := ⟨RX4, "layer", "(I)I"⟩
abbrev cX4_turned : ByteArray := prog_1_method_11_code
def yX4_turned : MethodName := ⟨RX4, "turned", "(I)I"⟩
abbrev cX4_orders : ByteArray := prog_1_method_12_code
def yX4_orders : MethodName := ⟨RX4, "orders", "(I)I"⟩
abbrev cX4_order : ByteArray := prog_1_method_13_code
def yX4_order : MethodName := ⟨RX4, "order", "(II)J"⟩
abbrev cX4_check : ByteArray := prog_1_method_14_code
def yX4_check : MethodName := ⟨RX4, "check", "(IJ)I"⟩
abbrev cX4_forced : ByteArray := prog_1_method_15_code
def yX4_forced : MethodName := ⟨RX4, "forced", "(II)I"⟩
abbrev cX4_above : ByteArray := prog_1_method_16_code
def yX4_above : MethodName := ⟨RX4, "above", "(III)I"⟩
abbrev cX4_alike : ByteArray := prog_1_method_17_code
def yX4_alike : MethodName := ⟨RX4, "alike", "(II)I"⟩
abbrev cX4_foldings : ByteArray := prog_1_method_18_code
def yX4_foldings : MethodName := ⟨RX4, "foldings", "(I)I"⟩
abbrev cX4_clash : ByteArray := prog_1_method_19_code
def yX4_clash : MethodName := ⟨RX4, "clash", "(I)I"⟩
abbrev cX4_inClash : ByteArray := prog_1_method_20_code
def yX4_inClash : MethodName := ⟨RX4, "inClash", "(I)I"⟩
abbrev cX4_simple : ByteArray := prog_1_method_21_code
def yX4_simple : MethodName := ⟨RX4, "simple", "(I)I"⟩
abbrev cX4_step : ByteArray := prog_1_method_22_code
def yX4_step : MethodName := ⟨RX4, "step", "(I)I"⟩
abbrev cX4_fold : ByteArray := prog_1_method_23_code
def yX4_fold : MethodName := ⟨RX4, "fold", "(II)I"⟩
abbrev cX4_flatten : ByteArray := prog_1_method_24_code
def yX4_flatten : MethodName := ⟨RX4, "flatten", "(I)I"⟩
abbrev cX4_lies : ByteArray := prog_1_method_25_code
def yX4_lies : MethodName := ⟨RX4, "lies", "(III)I"⟩
abbrev cX4_addPaper : ByteArray := prog_1_method_26_code
def yX4_addPaper : MethodName := ⟨RX4, "addPaper", "(III)I"⟩
abbrev cX4_find : ByteArray := prog_1_method_27_code
def yX4_find : MethodName := ⟨RX4, "find", "(I)LCreaseFlat$Paper;"⟩
abbrev cX4_has : ByteArray := prog_1_method_28_code
def yX4_has : MethodName := ⟨RX4, "has", "(II)Z"⟩
abbrev cX4_readOrder : ByteArray := prog_1_method_29_code
def yX4_readOrder : MethodName := ⟨RX4, "readOrder", "(IJ)Z"⟩
abbrev cX4_canBecome : ByteArray := prog_1_method_30_code
def yX4_canBecome : MethodName := ⟨RX4, "canBecome", "(LCreaseFlat$Paper;II)Z"⟩
abbrev cX4_canLieBelow : ByteArray := prog_1_method_31_code
def yX4_canLieBelow : MethodName := ⟨RX4, "canLieBelow", "(LCreaseFlat$Paper;II)Z"⟩
abbrev cX4_allowsSome : ByteArray := prog_1_method_32_code
def yX4_allowsSome : MethodName := ⟨RX4, "allowsSome", "(LCreaseFlat$Paper;I)Z"⟩
abbrev cX4_allowTheSame : ByteArray := prog_1_method_33_code
def yX4_allowTheSame : MethodName := ⟨RX4, "allowTheSame", "(LCreaseFlat$Paper;LCreaseFlat$Paper;)Z"⟩
abbrev cX4_isNew : ByteArray := prog_1_method_34_code
def yX4_isNew : MethodName := ⟨RX4, "isNew", "(I)Z"⟩
def RX5 : String := "CreaseFlatModel"
def TX5 : u_T := fun k => match k with
  | 0 => ("CreaseFlatModel", "papers", "I", false)
  | 1 => ("CreaseFlatModel", "kind", "[I", true)
  | 2 => ("CreaseFlatModel", "faces", "[I", true)
  | 3 => ("CreaseFlatModel", "rows", "[I", true)
  | 4 => ("CreaseFlatModel", "columns", "[I", true)
  | 5 => ("CreaseFlatModel", "creases", "[I", true)
  | 6 => ("CreaseFlatModel", "lengths", "[I", true)
  | 7 => ("CreaseFlatModel", "first", "[I", true)
  | 8 => ("CreaseFlatModel", "second", "[I", true)
  | 9 => ("CreaseFlatModel", "marks", "[I", true)
  | 10 => ("CreaseFlatModel", "gaps", "[I", true)
  | 11 => ("CreaseFlatModel", "rowGaps", "[I", true)
  | 12 => ("CreaseFlatModel", "paper", "I", false)
  | 13 => ("CreaseFlatModel", "begun", "Z", false)
  | 14 => ("CreaseFlatModel", "now", "[I", true)
  | 15 => ("CreaseFlatModel", "laid", "I", false)
  | 16 => ("CreaseFlatModel", "height", "[I", true)
  | 17 => ("CreaseFlatModel", "place", "[I", true)
  | 18 => ("CreaseFlatModel", "toldPaper", "I", false)
  | 19 => ("CreaseFlatModel", "told", "[I", true)
  | 20 => ("CreaseFlatModel", "keptNow", "[I", true)
  | 21 => ("CreaseFlatModel", "keptHeight", "[I", true)
  | 22 => ("CreaseFlatModel", "seen", "[Z", true)
  | 23 => ("CreaseFlatModel", "clashing", "[I", true)
  | 24 => ("CreaseFlatModel", "clashes", "I", false)
  | 25 => ("CreaseFlatModel", "keptMarks", "[I", true)
  | 26 => ("CreaseFlatModel", "least", "[I", true)
  | 27 => ("CreaseFlatModel", "steps", "[I", true)
  | _ => ("CreaseFlatModel", "stepCount", "I", false)
def tyX5 : Nat → FieldType := fun k => match k with
  | 0 => .int
  | 1 => .array .int
  | 2 => .array .int
  | 3 => .array .int
  | 4 => .array .int
  | 5 => .array .int
  | 6 => .array .int
  | 7 => .array .int
  | 8 => .array .int
  | 9 => .array .int
  | 10 => .array .int
  | 11 => .array .int
  | 12 => .int
  | 13 => .boolean
  | 14 => .array .int
  | 15 => .int
  | 16 => .array .int
  | 17 => .array .int
  | 18 => .int
  | 19 => .array .int
  | 20 => .array .int
  | 21 => .array .int
  | 22 => .array .boolean
  | 23 => .array .int
  | 24 => .int
  | 25 => .array .int
  | 26 => .array .int
  | 27 => .array .int
  | _ => .int
abbrev wsX50 : List Cond := u_ws RX5 TX5 29
theorem nmX5 : ∀ a, a < 29 → ∀ b, b < 29 → a ≠ b → (TX5 a).2.1 ≠ (TX5 b).2.1 := by decide +kernel
theorem tyX5_ok : ∀ k, k < 29 → parseFieldDescriptor (TX5 k).2.2.1 = some (tyX5 k) := by decide +kernel
abbrev cX5_init : ByteArray := prog_7_method_1_code
def yX5_init : MethodName := ⟨RX5, "<init>", "()V"⟩
abbrev cX5_lesser : ByteArray := prog_7_method_2_code
def yX5_lesser : MethodName := ⟨RX5, "lesser", "(II)I"⟩
abbrev cX5_greater : ByteArray := prog_7_method_3_code
def yX5_greater : MethodName := ⟨RX5, "greater", "(II)I"⟩
abbrev cX5_bits : ByteArray := prog_7_method_4_code
def yX5_bits : MethodName := ⟨RX5, "bits", "(I)I"⟩
abbrev cX5_has : ByteArray := prog_7_method_5_code
def yX5_has : MethodName := ⟨RX5, "has", "(I)Z"⟩
abbrev cX5_hasFace : ByteArray := prog_7_method_6_code
def yX5_hasFace : MethodName := ⟨RX5, "hasFace", "(II)Z"⟩
abbrev cX5_hasCrease : ByteArray := prog_7_method_7_code
def yX5_hasCrease : MethodName := ⟨RX5, "hasCrease", "(II)Z"⟩
abbrev cX5_add : ByteArray := prog_7_method_8_code
def yX5_add : MethodName := ⟨RX5, "add", "(II)I"⟩
abbrev cX5_addCrease : ByteArray := prog_7_method_9_code
def yX5_addCrease : MethodName := ⟨RX5, "addCrease", "(III)V"⟩
abbrev cX5_strip : ByteArray := prog_7_method_10_code
def yX5_strip : MethodName := ⟨RX5, "strip", "(I)I"⟩
abbrev cX5_corner : ByteArray := prog_7_method_11_code
def yX5_corner : MethodName := ⟨RX5, "corner", "(I)I"⟩
abbrev cX5_map : ByteArray := prog_7_method_12_code
def yX5_map : MethodName := ⟨RX5, "map", "(II)I"⟩
abbrev cX5_length : ByteArray := prog_7_method_13_code
def yX5_length : MethodName := ⟨RX5, "length", "(III)I"⟩
abbrev cX5_mark : ByteArray := prog_7_method_14_code
def yX5_mark : MethodName := ⟨RX5, "mark", "(III)I"⟩
abbrev cX5_uneven : ByteArray := prog_7_method_15_code
def yX5_uneven : MethodName := ⟨RX5, "uneven", "(I)I"⟩
abbrev cX5_marked : ByteArray := prog_7_method_16_code
def yX5_marked : MethodName := ⟨RX5, "marked", "(II)I"⟩
abbrev cX5_about : ByteArray := prog_7_method_17_code
def yX5_about : MethodName := ⟨RX5, "about", "(II)I"⟩
abbrev cX5_begins : ByteArray := prog_7_method_18_code
def yX5_begins : MethodName := ⟨RX5, "begins", "(II)I"⟩
abbrev cX5_placeOf : ByteArray := prog_7_method_19_code
def yX5_placeOf : MethodName := ⟨RX5, "placeOf", "(II)I"⟩
abbrev cX5_crease : ByteArray := prog_7_method_20_code
def yX5_crease : MethodName := ⟨RX5, "crease", "(III)I"⟩
abbrev cX5_isUp : ByteArray := prog_7_method_21_code
def yX5_isUp : MethodName := ⟨RX5, "isUp", "(II)Z"⟩
abbrev cX5_begin : ByteArray := prog_7_method_22_code
def yX5_begin : MethodName := ⟨RX5, "begin", "(I)V"⟩
abbrev cX5_isWithin : ByteArray := prog_7_method_23_code
def yX5_isWithin : MethodName := ⟨RX5, "isWithin", "(II)Z"⟩
abbrev cX5_isOneSide : ByteArray := prog_7_method_24_code
def yX5_isOneSide : MethodName := ⟨RX5, "isOneSide", "(II)Z"⟩
abbrev cX5_isFour : ByteArray := prog_7_method_25_code
def yX5_isFour : MethodName := ⟨RX5, "isFour", "(II)Z"⟩
abbrev cX5_markIn : ByteArray := prog_7_method_26_code
def yX5_markIn : MethodName := ⟨RX5, "markIn", "(I)I"⟩
abbrev cX5_isFine : ByteArray := prog_7_method_27_code
def yX5_isFine : MethodName := ⟨RX5, "isFine", "(I)Z"⟩
abbrev cX5_isClosed : ByteArray := prog_7_method_28_code
def yX5_isClosed : MethodName := ⟨RX5, "isClosed", "(III)Z"⟩
abbrev cX5_next : ByteArray := prog_7_method_29_code
def yX5_next : MethodName := ⟨RX5, "next", "()Z"⟩
abbrev cX5_number : ByteArray := prog_7_method_30_code
def yX5_number : MethodName := ⟨RX5, "number", "()J"⟩
abbrev cX5_judge : ByteArray := prog_7_method_31_code
def yX5_judge : MethodName := ⟨RX5, "judge", "(I)I"⟩
abbrev cX5_layer : ByteArray := prog_7_method_32_code
def yX5_layer : MethodName := ⟨RX5, "layer", "(I)I"⟩
abbrev cX5_turned : ByteArray := prog_7_method_33_code
def yX5_turned : MethodName := ⟨RX5, "turned", "(I)I"⟩
abbrev cX5_orders : ByteArray := prog_7_method_34_code
def yX5_orders : MethodName := ⟨RX5, "orders", "(I)I"⟩
abbrev cX5_order : ByteArray := prog_7_method_35_code
def yX5_order : MethodName := ⟨RX5, "order", "(II)J"⟩
abbrev cX5_check : ByteArray := prog_7_method_36_code
def yX5_check : MethodName := ⟨RX5, "check", "(IJ)I"⟩
abbrev cX5_isBetween : ByteArray := prog_7_method_37_code
def yX5_isBetween : MethodName := ⟨RX5, "isBetween", "(II)Z"⟩
abbrev cX5_forced : ByteArray := prog_7_method_38_code
def yX5_forced : MethodName := ⟨RX5, "forced", "(II)I"⟩
abbrev cX5_above : ByteArray := prog_7_method_39_code
def yX5_above : MethodName := ⟨RX5, "above", "(III)I"⟩
abbrev cX5_alike : ByteArray := prog_7_method_40_code
def yX5_alike : MethodName := ⟨RX5, "alike", "(II)I"⟩
abbrev cX5_foldings : ByteArray := prog_7_method_41_code
def yX5_foldings : MethodName := ⟨RX5, "foldings", "(I)I"⟩
abbrev cX5_isAllowed : ByteArray := prog_7_method_42_code
def yX5_isAllowed : MethodName := ⟨RX5, "isAllowed", "(I)Z"⟩
abbrev cX5_clash : ByteArray := prog_7_method_43_code
def yX5_clash : MethodName := ⟨RX5, "clash", "(I)I"⟩
abbrev cX5_inClash : ByteArray := prog_7_method_44_code
def yX5_inClash : MethodName := ⟨RX5, "inClash", "(I)I"⟩
abbrev cX5_gapsOf : ByteArray := prog_7_method_45_code
def yX5_gapsOf : MethodName := ⟨RX5, "gapsOf", "(IZ)I"⟩
abbrev cX5_lengthOf : ByteArray := prog_7_method_46_code
def yX5_lengthOf : MethodName := ⟨RX5, "lengthOf", "(II)I"⟩
abbrev cX5_goesUp : ByteArray := prog_7_method_47_code
def yX5_goesUp : MethodName := ⟨RX5, "goesUp", "(II)Z"⟩
abbrev cX5_liesAt : ByteArray := prog_7_method_48_code
def yX5_liesAt : MethodName := ⟨RX5, "liesAt", "(III)I"⟩
abbrev cX5_done : ByteArray := prog_7_method_49_code
def yX5_done : MethodName := ⟨RX5, "done", "(IIII)I"⟩
abbrev cX5_stateOf : ByteArray := prog_7_method_50_code
def yX5_stateOf : MethodName := ⟨RX5, "stateOf", "(II)I"⟩
abbrev cX5_simple : ByteArray := prog_7_method_51_code
def yX5_simple : MethodName := ⟨RX5, "simple", "(I)I"⟩
abbrev cX5_best : ByteArray := prog_7_method_52_code
def yX5_best : MethodName := ⟨RX5, "best", "(IIIIIZ)I"⟩
abbrev cX5_step : ByteArray := prog_7_method_53_code
def yX5_step : MethodName := ⟨RX5, "step", "(I)I"⟩
abbrev cX5_creasesIn : ByteArray := prog_7_method_54_code
def yX5_creasesIn : MethodName := ⟨RX5, "creasesIn", "(IIZ)I"⟩
abbrev cX5_fold : ByteArray := prog_7_method_55_code
def yX5_fold : MethodName := ⟨RX5, "fold", "(II)I"⟩
abbrev cX5_flatten : ByteArray := prog_7_method_56_code
def yX5_flatten : MethodName := ⟨RX5, "flatten", "(I)I"⟩
abbrev cX5_lies : ByteArray := prog_7_method_57_code
def yX5_lies : MethodName := ⟨RX5, "lies", "(III)I"⟩
def RJ6 : String := "java/lang/Integer"
def TJ6 : u_T := fun k => match k with
  | _ => ("", "", "", false)
def tyJ6 : Nat → FieldType := fun k => match k with
  | _ => .int
abbrev wsJ60 : List Cond := u_ws RJ6 TJ6 0
theorem nmJ6 : ∀ a, a < 0 → ∀ b, b < 0 → a ≠ b → (TJ6 a).2.1 ≠ (TJ6 b).2.1 := by decide +kernel
theorem tyJ6_ok : ∀ k, k < 0 → parseFieldDescriptor (TJ6 k).2.2.1 = some (tyJ6 k) := by decide +kernel
abbrev cJ6_bitCount_0f7a4 : ByteArray := prog_8_method_49_code
def yJ6_bitCount_0f7a4 : MethodName := ⟨RJ6, "bitCount", "(I)I"⟩
def RJ9 : String := "java/lang/Math"
def TJ9 : u_T := fun k => match k with
  | _ => ("", "", "", false)
def tyJ9 : Nat → FieldType := fun k => match k with
  | _ => .int
abbrev wsJ90 : List Cond := u_ws RJ9 TJ9 0
theorem nmJ9 : ∀ a, a < 0 → ∀ b, b < 0 → a ≠ b → (TJ9 a).2.1 ≠ (TJ9 b).2.1 := by decide +kernel
theorem tyJ9_ok : ∀ k, k < 0 → parseFieldDescriptor (TJ9 k).2.2.1 = some (tyJ9 k) := by decide +kernel
abbrev cJ9_max_7cf53 : ByteArray := prog_9_method_65_code
def yJ9_max_7cf53 : MethodName := ⟨RJ9, "max", "(II)I"⟩
abbrev cJ9_min_7cf53 : ByteArray := prog_9_method_69_code
def yJ9_min_7cf53 : MethodName := ⟨RJ9, "min", "(II)I"⟩
def RJ10 : String := "java/lang/System"
def TJ10 : u_T := fun k => match k with
  | _ => ("", "", "", false)
def tyJ10 : Nat → FieldType := fun k => match k with
  | _ => .int
abbrev wsJ100 : List Cond := u_ws RJ10 TJ10 0
theorem nmJ10 : ∀ a, a < 0 → ∀ b, b < 0 → a ≠ b → (TJ10 a).2.1 ≠ (TJ10 b).2.1 := by decide +kernel
theorem tyJ10_ok : ∀ k, k < 0 → parseFieldDescriptor (TJ10 k).2.2.1 = some (tyJ10 k) := by decide +kernel
def RJ7 : String := "java/util/Arrays"
def TJ7 : u_T := fun k => match k with
  | _ => ("", "", "", false)
def tyJ7 : Nat → FieldType := fun k => match k with
  | _ => .int
abbrev wsJ70 : List Cond := u_ws RJ7 TJ7 0
theorem nmJ7 : ∀ a, a < 0 → ∀ b, b < 0 → a ≠ b → (TJ7 a).2.1 ≠ (TJ7 b).2.1 := by decide +kernel
theorem tyJ7_ok : ∀ k, k < 0 → parseFieldDescriptor (TJ7 k).2.2.1 = some (tyJ7 k) := by decide +kernel
abbrev cJ7_fill_d0a16 : ByteArray := prog_11_method_101_code
def yJ7_fill_d0a16 : MethodName := ⟨RJ7, "fill", "([JJ)V"⟩
abbrev cJ7_fill_53178 : ByteArray := prog_11_method_103_code
def yJ7_fill_53178 : MethodName := ⟨RJ7, "fill", "([II)V"⟩
def RL : String := "CreaseFlatLaw"
abbrev cL_law : ByteArray := code
def yL_law : MethodName := ⟨RL, "law", "([I)Z"⟩
abbrev vwCl : List vw_C := [(RX0, TX0, 3), (RX1, TX1, 18), (RX2, TX2, 10), (RX3, TX3, 3), (RX4, TX4, 15), (RX5, TX5, 29)]
end
section
/-! WHAT IS GIVEN OF THE TABLES, for every method alike: pz_U, the words that last; pz_NM, the links to private members of nest mates; pz_ty, the array classes by their tags. -/
def pz_U : List Cond := lw_tbl.filter goodWord
theorem pz_in {w : Cond} (i : Nat) (h : lw_tbl[i]? = some w) (g : goodWord w = true) : w ∈ pz_U := List.mem_filter.mpr ⟨List.mem_of_getElem? h, g⟩
theorem pz_good : ∀ w ∈ pz_U, (w.onTables && w.keeps) = true ∨ ∃ ty, w = .arrayClass ty := fun _ h => good_of_word (List.mem_filter.mp h).2
def pz_ty : List FieldType := [.int, .long, .object "CreaseFlat$Paper", .array .int, .boolean]
def pz_NF : List (String × Nat × String × String × String × String) := []
def pz_NM : List (String × Nat × MethodName × String) := [("CreaseFlat", 21, ⟨"CreaseFlat$Pile", "<init>", "()V"⟩, "CreaseFlat"), ("CreaseFlat", 55, ⟨"CreaseFlat$Lay", "<init>", "()V"⟩, "CreaseFlat"), ("CreaseFlat", 62, ⟨"CreaseFlat$Ways", "<init>", "()V"⟩, "CreaseFlat"), ("CreaseFlat$Pile", 60, ⟨"CreaseFlat", "has", "(II)Z"⟩, "CreaseFlat"), ("CreaseFlat$Paper", 112, ⟨"CreaseFlat", "has", "(II)Z"⟩, "CreaseFlat"), ("CreaseFlat$Lay", 31, ⟨"CreaseFlat", "has", "(II)Z"⟩, "CreaseFlat"), ("CreaseFlat$Ways", 51, ⟨"CreaseFlat", "has", "(II)Z"⟩, "CreaseFlat")]
def pz_AO : List String := ["CreaseFlat$Paper"]
end
section
/-! A SMALL PROGRAM LOGIC OVER W. Every cell that was made since the law's start (from address X.2.2 on) is ours: a heap is held as a pure function h = (cells by address, size). pz_W X M d pc lv st h rc rs Q: from here method M returns r with heap h', and Q r h'; d frames, rc cells and rs slots are still to be had. pz_Call: the same of a whole method. -/
abbrev pz_E : Type := (Nat × vp_A) ⊕ (Nat × List Value)
abbrev pz_H : Type := (Nat → Option pz_E) × Nat
abbrev pz_M : Type := MethodName × ByteArray × Nat × Option FieldType
abbrev pz_X : Type := va_G × (Nat → ClassId) × Nat
def pz_cv (d : Nat → ClassId) (c : pz_E) : va_E := match c with
  | .inl a => .inl (d a.1, a.2)
  | .inr o => .inr o
def pz_R (X : pz_X) (h : pz_H) (H : Heap) : Prop := H.size = h.2 ∧ X.2.2 ≤ h.2 ∧ ∀ (q : Nat) (c : pz_E), h.1 q = some c → X.2.2 ≤ q ∧ va_at X.1 vwCl (q, pz_cv X.2.1 c) H
def pz_kt (X : pz_X) : List (ClassId × FieldType) := (List.range pz_ty.length).map (fun t => (X.2.1 t, pz_ty.getD t .int))
def pz_K (X : pz_X) (U : State) : Prop := va_K X.1 vwCl (pz_kt X) U ∧ (∀ q ∈ pz_NF, va_Nw (.fieldLinkNest q.1 q.2.1 q.2.2.1 q.2.2.2.1 q.2.2.2.2.1 q.2.2.2.2.2) U) ∧ (∀ q ∈ pz_NM, va_Nw (.methodLinkNest q.1 q.2.1 q.2.2.1 q.2.2.2) U) ∧ (∀ C ∈ pz_AO, va_AO C U)
def pz_C (M : pz_M) (d : Nat) (X : pz_X) (p : Program) (R : Room) (s : State) (m : MethodId) (args : Array Value) (meth : Method) (c : Code) : Prop :=
  p.tables.exec = Jvm.exec ∧ c.code = M.2.1 ∧ c.maxLocals = M.2.2.1 ∧ s.vm.findClass M.1.cls = some m.cls ∧ (∀ w ∈ pz_U, w.before args s = true) ∧ pz_K X s ∧ meth.name = M.1.name ∧ d ≤ R.frames ∧ 38 * d ≤ R.locals
def pz_rt (M : pz_M) (pc : Nat) (r : Option Value) : Prop := match r with
  | none => M.2.2.2 = none ∧ decode M.2.1 pc = .ok (.return_, 1)
  | some (.int v) => ∃ ty, M.2.2.2 = some ty ∧ narrow ty (.int v) = .int v ∧ decode M.2.1 pc = .ok (.ireturn, 1)
  | some (.long _) => M.2.2.2 = some .long ∧ decode M.2.1 pc = .ok (.lreturn, 1)
  | some (.ref _) => (∃ rt, M.2.2.2 = some rt ∧ ((∃ n, rt = .object n) ∨ ∃ t, rt = .array t)) ∧ decode M.2.1 pc = .ok (.areturn, 1)
  | some .null => (∃ rt, M.2.2.2 = some rt ∧ ((∃ n, rt = .object n) ∨ ∃ t, rt = .array t)) ∧ decode M.2.1 pc = .ok (.areturn, 1)
  | _ => False
abbrev pz_A (X : pz_X) : Nat → Prop := fun q => X.2.2 ≤ q
def pz_I (X : pz_X) (M : pz_M) (d : Nat) (h : pz_H) (rc rs : Nat) (Q : Option Value → pz_H → Prop) (p : Program) (l : Launch) (e : Env) (R : Room) (s : State) (m : MethodId) (args : Array Value) (below : List Frame) (meth : Method) (c : Code) (Z : State → Prop) (H : Heap) (locs : List Loc) (cells slots : Nat) : Prop :=
  pz_C M d X p R s m args meth c ∧ X.2.2 ≤ s.heap.size ∧
  (∀ (r : Option Value) (h' : pz_H) (H' : Heap) (locs' : List Loc) (pc' : Nat) (ls' : Array Slot), Q r h' → pz_R X h' H' → va_S (pz_A X) s.heap H' locs' → pz_rt M pc' r → W p l e R s m args below meth c H' locs' R.cells R.slots Z (F0 m pc' ls' r.toList)) ∧
  pz_R X h H ∧ va_S (pz_A X) s.heap H locs ∧ cells + rc ≤ R.cells ∧ slots + rs ≤ R.slots
def pz_W (X : pz_X) (M : pz_M) (d pc : Nat) (lv : List (Nat × Value)) (st : List Value) (h : pz_H) (rc rs : Nat) (Q : Option Value → pz_H → Prop) : Prop :=
  ∀ (p : Program) (l : Launch) (e : Env) (R : Room) (s : State) (m : MethodId) (args : Array Value) (below : List Frame) (meth : Method) (c : Code) (Z : State → Prop) (H : Heap) (locs : List Loc) (cells slots : Nat) (ls : Array Slot),
    pz_I X M d h rc rs Q p l e R s m args below meth c Z H locs cells slots → lv_has ls M.2.2.1 lv → W p l e R s m args below meth c H locs cells slots Z (F0 m pc ls st)
def pz_rm (d mc ms : Nat) : Room := { frames := d, cells := mc, slots := ms, locals := 38 * d }
def pz_Pc (X : pz_X) (as : List Value) (h : pz_H) : Array Value → State → Prop := va_Pc as (fun U => pz_R X h U.heap ∧ pz_K X U)
def pz_Qc (X : pz_X) (Q : Option Value → pz_H → Prop) : Array Value → State → Outcome → State → Prop := fun _ st o t => (∃ (r : Option Value) (h' : pz_H), o = .returned r ∧ Q r h' ∧ pz_R X h' t.heap) ∧ va_F (pz_A X) st t
def pz_ws (M : pz_M) : List Cond := .code M.1 M.2.1 M.2.2.1 M.2.2.2 :: pz_U
def pz_Call (X : pz_X) (M : pz_M) (d mc ms : Nat) (as : List Value) (h : pz_H) (Q : Option Value → pz_H → Prop) : Prop :=
  ∀ l : Launch, Met l M.1 (pz_ws M) (pz_rm d mc ms) (pz_Pc X as h) (pz_Qc X Q) mc ms (pz_A X)
def pz_up (h : pz_H) (a : Nat) (c : pz_E) : pz_H := (va_up h.1 a (some c), h.2)
def pz_nw (h : pz_H) (c : pz_E) : pz_H := (va_up h.1 h.2 (some c), h.2 + 1)
theorem pz_up_at {h : pz_H} {a : Nat} {c : pz_E} : (pz_up h a c).1 a = some c := va_up_self _ _ _
theorem pz_up_ne {h : pz_H} {a b : Nat} {c : pz_E} (hb : b ≠ a) : (pz_up h a c).1 b = h.1 b := va_up_ne _ _ hb
theorem pz_nw_at {h : pz_H} {c : pz_E} : (pz_nw h c).1 h.2 = some c := va_up_self _ _ _
theorem pz_nw_ne {h : pz_H} {b : Nat} {c : pz_E} (hb : b ≠ h.2) : (pz_nw h c).1 b = h.1 b := va_up_ne _ _ hb
theorem pz_R.lt {X : pz_X} {h : pz_H} {H : Heap} (hR : pz_R X h H) {q : Nat} {c : pz_E} (hq : h.1 q = some c) : q < h.2 := by
  have h1 := (hR.2.2 q c hq).2.lt
  rw [hR.1] at h1
  exact h1
theorem pz_R.set {X : pz_X} {h : pz_H} {H H1 : Heap} {a : Nat} {c0 c : pz_E} (hR : pz_R X h H) (hG : h.1 a = some c0) (he : va_at X.1 vwCl (a, pz_cv X.2.1 c) H1) (z : H1.size = H.size) (oq : ∀ q : Nat, q ≠ a → H1[q]? = H[q]?) : pz_R X (pz_up h a c) H1 := by
  refine ⟨z.trans hR.1, hR.2.1, fun q c1 hq => ?_⟩
  by_cases hqa : q = a
  · subst hqa
    rw [pz_up_at] at hq
    cases hq
    exact ⟨(hR.2.2 _ _ hG).1, he⟩
  · rw [pz_up_ne hqa] at hq
    obtain ⟨h1, h2⟩ := hR.2.2 q c1 hq
    exact ⟨h1, h2.kept (oq q hqa)⟩
theorem pz_R.push {X : pz_X} {h : pz_H} {H H1 : Heap} {c : pz_E} (hR : pz_R X h H) (he : va_at X.1 vwCl (h.2, pz_cv X.2.1 c) H1) (z : H1.size = h.2 + 1) (o : ∀ q : Nat, q < h.2 → H1[q]? = H[q]?) : pz_R X (pz_nw h c) H1 := by
  refine ⟨z, Nat.le_trans hR.2.1 (Nat.le_succ _), fun q c1 hq => ?_⟩
  by_cases hqa : q = h.2
  · subst hqa
    rw [pz_nw_at] at hq
    cases hq
    exact ⟨hR.2.1, he⟩
  · rw [pz_nw_ne hqa] at hq
    obtain ⟨h1, h2⟩ := hR.2.2 q c1 hq
    exact ⟨h1, h2.kept (o q (hR.lt hq))⟩
theorem pz_kt_at (X : pz_X) {t : Nat} {ty : FieldType} (ht : pz_ty[t]? = some ty) : (pz_kt X)[t]? = some (X.2.1 t, ty) := by
  have hl : t < pz_ty.length := (List.getElem?_eq_some_iff.mp ht).1
  simp only [pz_kt, List.getElem?_map, List.getElem?_range hl, Option.map_some, List.getD_eq_getElem?_getD, ht, Option.getD_some]
theorem pz_K.warm {X : pz_X} {s U : State} (hW : s.WarmedH U.vm) (h : pz_K X s) : pz_K X U :=
  ⟨va_K.moved hW.alike h.1, fun q hq => va_Nw.warmF hW (h.2.1 q hq), fun q hq => va_Nw.warmM hW (h.2.2.1 q hq), fun C hC => va_AO.moved hW.alike (h.2.2.2 C hC)⟩
theorem pz_K.same {X : pz_X} {s U : State} (hvm : s.vm = U.vm) (h : pz_K X s) : pz_K X U :=
  ⟨va_K.moved (by rw [hvm]; exact Vm.Alike.refl U.vm) h.1, fun q hq => va_Nw.same rfl hvm (h.2.1 q hq), fun q hq => va_Nw.same rfl hvm (h.2.2.1 q hq), fun C hC => va_AO.moved (by rw [hvm]; exact Vm.Alike.refl U.vm) (h.2.2.2 C hC)⟩
theorem lv_has.sub {ls : Array Slot} {n : Nat} {l l' : List (Nat × Value)} (h : lv_has ls n l) (hs : ∀ q ∈ l', q ∈ l) : lv_has ls n l' := ⟨h.1, h.2.1, fun q hq => h.2.2 q (hs q hq)⟩
/-- the locals, by their numbers -/
def pz_lk : List (Nat × Value) → Nat → Option Value
  | [], _ => none
  | q :: l, i => if q.1 = i then some q.2 else pz_lk l i
theorem pz_lk_mem : ∀ {l : List (Nat × Value)} {i : Nat} {v : Value}, pz_lk l i = some v → (i, v) ∈ l
  | [], _, _, h => by cases h
  | q :: l, i, v, h => by
    unfold pz_lk at h
    by_cases hq : q.1 = i
    · rw [if_pos hq] at h
      cases h
      rw [← hq]
      exact List.mem_cons_self
    · rw [if_neg hq] at h
      exact List.mem_cons_of_mem _ (pz_lk_mem h)
def pz_ins (i : Nat) (v : Value) : List (Nat × Value) → List (Nat × Value)
  | [] => [(i, v)]
  | q :: l => if i < q.1 then (i, v) :: q :: l else q :: pz_ins i v l
theorem pz_ins_mem {i : Nat} {v : Value} : ∀ {l : List (Nat × Value)} {q : Nat × Value}, q ∈ pz_ins i v l → q ∈ (i, v) :: l
  | [], q, h => h
  | a :: l, q, h => by
    unfold pz_ins at h
    split at h
    · exact h
    · rcases List.mem_cons.mp h with h | h
      · rw [h]; exact List.mem_cons_of_mem _ List.mem_cons_self
      · rcases List.mem_cons.mp (pz_ins_mem h) with h | h
        · rw [h]; exact List.mem_cons_self
        · exact List.mem_cons_of_mem _ (List.mem_cons_of_mem _ h)
def pz_set1 (i : Nat) (v : Value) (l : List (Nat × Value)) : List (Nat × Value) := pz_ins i v (l.filter (fun q => !(q.1 == i) && !(q.1 + 1 == i && q.2.category == 2)))
def pz_set2 (i : Nat) (v : Value) (l : List (Nat × Value)) : List (Nat × Value) := pz_ins i v (l.filter (fun q => !(q.1 == i) && (!(q.1 == i + 1) && !(q.1 + 1 == i && q.2.category == 2))))
/-- the part of the locals that is wanted further on -/
def pz_part (l : List (Nat × Value)) (l' : List (Nat × Value)) : Prop := ∀ q ∈ l', q ∈ l
theorem pz_part_of {l l' : List (Nat × Value)} (is : List Nat) (h : is.filterMap (fun i => (pz_lk l i).map (fun v => (i, v))) = l') : pz_part l l' := by
  intro q hq
  rw [← h] at hq
  obtain ⟨i, -, hi⟩ := List.mem_filterMap.mp hq
  cases hv : pz_lk l i with
  | none => rw [hv] at hi; cases hi
  | some v => rw [hv] at hi; cases hi; exact pz_lk_mem hv
section PZR
variable {X : pz_X} {M : pz_M} {d pc rc rs : Nat} {lv lv' : List (Nat × Value)} {st : List Value} {h : pz_H} {Q : Option Value → pz_H → Prop}
theorem pz_drop (hs : pz_part lv lv') (kk : pz_W X M d pc lv' st h rc rs Q) : pz_W X M d pc lv st h rc rs Q := by
  intro p l e R s m args below meth c Z H locs cells slots ls I hL
  exact kk p l e R s m args below meth c Z H locs cells slots ls I (hL.sub hs)
theorem pz_iconst {n : Int} {v : Int32} (hdg : decode M.2.1 pc = .ok (.iconst n, 1)) (hv : Int32.ofInt n = v) (kk : pz_W X M d (pc + 1) lv (.int v :: st) h rc rs Q) : pz_W X M d pc lv (st) h rc rs Q := by
  intro p l e R s m args below meth c Z H locs cells slots ls I hL
  exact lv_iconst I.1.1 I.1.2.1 hdg hv (kk p l e R s m args below meth c Z H locs cells slots ls I hL)
theorem pz_bipush {n : Int} {v : Int32} (hdg : decode M.2.1 pc = .ok (.bipush n, 2)) (hv : (Int8.ofInt n).toInt32 = v) (kk : pz_W X M d (pc + 2) lv (.int v :: st) h rc rs Q) : pz_W X M d pc lv (st) h rc rs Q := by
  intro p l e R s m args below meth c Z H locs cells slots ls I hL
  exact lv_bipush I.1.1 I.1.2.1 hdg hv (kk p l e R s m args below meth c Z H locs cells slots ls I hL)
theorem pz_sipush {n : Int} {v : Int32} (hdg : decode M.2.1 pc = .ok (.sipush n, 3)) (hv : (Int16.ofInt n).toInt32 = v) (kk : pz_W X M d (pc + 3) lv (.int v :: st) h rc rs Q) : pz_W X M d pc lv (st) h rc rs Q := by
  intro p l e R s m args below meth c Z H locs cells slots ls I hL
  exact lv_sipush I.1.1 I.1.2.1 hdg hv (kk p l e R s m args below meth c Z H locs cells slots ls I hL)
theorem pz_lconst {n : Fin 2} {v : Int64} (hdg : decode M.2.1 pc = .ok (.lconst n, 1)) (hv : Int64.ofNat (n : Nat) = v) (kk : pz_W X M d (pc + 1) lv (.long v :: st) h rc rs Q) : pz_W X M d pc lv (st) h rc rs Q := by
  intro p l e R s m args below meth c Z H locs cells slots ls I hL
  exact lv_lconst I.1.1 I.1.2.1 hdg hv (kk p l e R s m args below meth c Z H locs cells slots ls I hL)
theorem pz_null  (hdg : decode M.2.1 pc = .ok (.aconst_null, 1))  (kk : pz_W X M d (pc + 1) lv (.null :: st) h rc rs Q) : pz_W X M d pc lv (st) h rc rs Q := by
  intro p l e R s m args below meth c Z H locs cells slots ls I hL
  exact lv_null I.1.1 I.1.2.1 hdg (kk p l e R s m args below meth c Z H locs cells slots ls I hL)
theorem pz_iload_n {k : Fin 4} {x : Int32} (hdg : decode M.2.1 pc = .ok (.iload_n k, 1)) (hl : pz_lk lv (k : Nat) = some (.int x)) (kk : pz_W X M d (pc + 1) lv (.int x :: st) h rc rs Q) : pz_W X M d pc lv (st) h rc rs Q := by
  intro p l e R s m args below meth c Z H locs cells slots ls I hL
  exact lv_iload_n I.1.1 I.1.2.1 hdg rfl (hL.2.2 _ (pz_lk_mem hl)) (kk p l e R s m args below meth c Z H locs cells slots ls I hL)
theorem pz_iload {i : Nat} {x : Int32} (hdg : decode M.2.1 pc = .ok (.iload i, 2)) (hl : pz_lk lv i = some (.int x)) (kk : pz_W X M d (pc + 2) lv (.int x :: st) h rc rs Q) : pz_W X M d pc lv (st) h rc rs Q := by
  intro p l e R s m args below meth c Z H locs cells slots ls I hL
  exact lv_iload I.1.1 I.1.2.1 hdg (hL.2.2 _ (pz_lk_mem hl)) (kk p l e R s m args below meth c Z H locs cells slots ls I hL)
theorem pz_lload_n {k : Fin 4} {x : Int64} (hdg : decode M.2.1 pc = .ok (.lload_n k, 1)) (hl : pz_lk lv (k : Nat) = some (.long x)) (kk : pz_W X M d (pc + 1) lv (.long x :: st) h rc rs Q) : pz_W X M d pc lv (st) h rc rs Q := by
  intro p l e R s m args below meth c Z H locs cells slots ls I hL
  exact lv_lload_n I.1.1 I.1.2.1 hdg rfl (hL.2.2 _ (pz_lk_mem hl)) (kk p l e R s m args below meth c Z H locs cells slots ls I hL)
theorem pz_lload {i : Nat} {x : Int64} (hdg : decode M.2.1 pc = .ok (.lload i, 2)) (hl : pz_lk lv i = some (.long x)) (kk : pz_W X M d (pc + 2) lv (.long x :: st) h rc rs Q) : pz_W X M d pc lv (st) h rc rs Q := by
  intro p l e R s m args below meth c Z H locs cells slots ls I hL
  exact lv_lload I.1.1 I.1.2.1 hdg (hL.2.2 _ (pz_lk_mem hl)) (kk p l e R s m args below meth c Z H locs cells slots ls I hL)
theorem pz_aload_n {k : Fin 4} {x : Nat} (hdg : decode M.2.1 pc = .ok (.aload_n k, 1)) (hl : pz_lk lv (k : Nat) = some (.ref x)) (kk : pz_W X M d (pc + 1) lv (.ref x :: st) h rc rs Q) : pz_W X M d pc lv (st) h rc rs Q := by
  intro p l e R s m args below meth c Z H locs cells slots ls I hL
  exact lv_aload_n I.1.1 I.1.2.1 hdg rfl (hL.2.2 _ (pz_lk_mem hl)) (kk p l e R s m args below meth c Z H locs cells slots ls I hL)
theorem pz_aload {i : Nat} {x : Nat} (hdg : decode M.2.1 pc = .ok (.aload i, 2)) (hl : pz_lk lv i = some (.ref x)) (kk : pz_W X M d (pc + 2) lv (.ref x :: st) h rc rs Q) : pz_W X M d pc lv (st) h rc rs Q := by
  intro p l e R s m args below meth c Z H locs cells slots ls I hL
  exact lv_aload I.1.1 I.1.2.1 hdg (hL.2.2 _ (pz_lk_mem hl)) (kk p l e R s m args below meth c Z H locs cells slots ls I hL)
theorem pz_istore_n {k : Fin 4} {i : Nat} {x : Int32} (hdg : decode M.2.1 pc = .ok (.istore_n k, 1)) (hi : (k : Nat) = i) (hn : i < M.2.2.1) (hl : pz_set1 i (.int x) lv = lv') (kk : pz_W X M d (pc + 1) lv' st h rc rs Q) : pz_W X M d pc lv (.int x :: st) h rc rs Q := by
  intro p l e R s m args below meth c Z H locs cells slots ls I hL
  exact lv_istore_n I.1.1 I.1.2.1 hdg hi hL hn rfl (fun ls' hL' => kk p l e R s m args below meth c Z H locs cells slots ls' I (hL'.sub (fun q hq => pz_ins_mem (by rw [← hl] at hq; exact hq))))
theorem pz_istore {i : Nat} {x : Int32} (hdg : decode M.2.1 pc = .ok (.istore i, 2))  (hn : i < M.2.2.1) (hl : pz_set1 i (.int x) lv = lv') (kk : pz_W X M d (pc + 2) lv' st h rc rs Q) : pz_W X M d pc lv (.int x :: st) h rc rs Q := by
  intro p l e R s m args below meth c Z H locs cells slots ls I hL
  exact lv_istore I.1.1 I.1.2.1 hdg hL hn rfl (fun ls' hL' => kk p l e R s m args below meth c Z H locs cells slots ls' I (hL'.sub (fun q hq => pz_ins_mem (by rw [← hl] at hq; exact hq))))
theorem pz_astore_n {k : Fin 4} {i : Nat} {x : Nat} (hdg : decode M.2.1 pc = .ok (.astore_n k, 1)) (hi : (k : Nat) = i) (hn : i < M.2.2.1) (hl : pz_set1 i (.ref x) lv = lv') (kk : pz_W X M d (pc + 1) lv' st h rc rs Q) : pz_W X M d pc lv (.ref x :: st) h rc rs Q := by
  intro p l e R s m args below meth c Z H locs cells slots ls I hL
  exact lv_astore_n I.1.1 I.1.2.1 hdg hi hL hn rfl (fun ls' hL' => kk p l e R s m args below meth c Z H locs cells slots ls' I (hL'.sub (fun q hq => pz_ins_mem (by rw [← hl] at hq; exact hq))))
theorem pz_astore {i : Nat} {x : Nat} (hdg : decode M.2.1 pc = .ok (.astore i, 2))  (hn : i < M.2.2.1) (hl : pz_set1 i (.ref x) lv = lv') (kk : pz_W X M d (pc + 2) lv' st h rc rs Q) : pz_W X M d pc lv (.ref x :: st) h rc rs Q := by
  intro p l e R s m args below meth c Z H locs cells slots ls I hL
  exact lv_astore I.1.1 I.1.2.1 hdg hL hn rfl (fun ls' hL' => kk p l e R s m args below meth c Z H locs cells slots ls' I (hL'.sub (fun q hq => pz_ins_mem (by rw [← hl] at hq; exact hq))))
theorem pz_lstore_n {k : Fin 4} {i : Nat} {x : Int64} (hdg : decode M.2.1 pc = .ok (.lstore_n k, 1)) (hi : (k : Nat) = i) (hn : i + 1 < M.2.2.1) (hl : pz_set2 i (.long x) lv = lv') (kk : pz_W X M d (pc + 1) lv' st h rc rs Q) : pz_W X M d pc lv (.long x :: st) h rc rs Q := by
  intro p l e R s m args below meth c Z H locs cells slots ls I hL
  exact lv_lstore_n I.1.1 I.1.2.1 hdg hi hL hn rfl (fun ls' hL' => kk p l e R s m args below meth c Z H locs cells slots ls' I (hL'.sub (fun q hq => pz_ins_mem (by rw [← hl] at hq; exact hq))))
theorem pz_lstore {i : Nat} {x : Int64} (hdg : decode M.2.1 pc = .ok (.lstore i, 2))  (hn : i + 1 < M.2.2.1) (hl : pz_set2 i (.long x) lv = lv') (kk : pz_W X M d (pc + 2) lv' st h rc rs Q) : pz_W X M d pc lv (.long x :: st) h rc rs Q := by
  intro p l e R s m args below meth c Z H locs cells slots ls I hL
  exact lv_lstore I.1.1 I.1.2.1 hdg hL hn rfl (fun ls' hL' => kk p l e R s m args below meth c Z H locs cells slots ls' I (hL'.sub (fun q hq => pz_ins_mem (by rw [← hl] at hq; exact hq))))
theorem pz_iinc {i : Nat} {n : Int} {x v : Int32} (hdg : decode M.2.1 pc = .ok (.iinc i n, 3)) (hk : pz_lk lv i = some (.int x)) (hv : x + Int32.ofInt n = v) (hn : i < M.2.2.1) (hl : pz_set1 i (.int v) lv = lv') (kk : pz_W X M d (pc + 3) lv' st h rc rs Q) : pz_W X M d pc lv st h rc rs Q := by
  intro p l e R s m args below meth c Z H locs cells slots ls I hL
  obtain ⟨k, hk2⟩ := List.getElem?_of_mem (pz_lk_mem hk)
  exact lv_iinc (k := k) I.1.1 I.1.2.1 hdg hL hk2 hv hn rfl (fun ls' hL' => kk p l e R s m args below meth c Z H locs cells slots ls' I (hL'.sub (fun q hq => pz_ins_mem (by rw [← hl] at hq; exact hq))))
theorem pz_iadd {x y : Int32} (hdg : decode M.2.1 pc = .ok (.iadd, 1))  (kk : pz_W X M d (pc + 1) lv (.int (x + y) :: st) h rc rs Q) : pz_W X M d pc lv (.int y :: .int x :: st) h rc rs Q := by
  intro p l e R s m args below meth c Z H locs cells slots ls I hL
  exact lv_iadd I.1.1 I.1.2.1 hdg (kk p l e R s m args below meth c Z H locs cells slots ls I hL)
theorem pz_isub {x y : Int32} (hdg : decode M.2.1 pc = .ok (.isub, 1))  (kk : pz_W X M d (pc + 1) lv (.int (x - y) :: st) h rc rs Q) : pz_W X M d pc lv (.int y :: .int x :: st) h rc rs Q := by
  intro p l e R s m args below meth c Z H locs cells slots ls I hL
  exact lv_isub I.1.1 I.1.2.1 hdg (kk p l e R s m args below meth c Z H locs cells slots ls I hL)
theorem pz_imul {x y : Int32} (hdg : decode M.2.1 pc = .ok (.imul, 1))  (kk : pz_W X M d (pc + 1) lv (.int (x * y) :: st) h rc rs Q) : pz_W X M d pc lv (.int y :: .int x :: st) h rc rs Q := by
  intro p l e R s m args below meth c Z H locs cells slots ls I hL
  exact lv_imul I.1.1 I.1.2.1 hdg (kk p l e R s m args below meth c Z H locs cells slots ls I hL)
theorem pz_iand {x y : Int32} (hdg : decode M.2.1 pc = .ok (.iand, 1))  (kk : pz_W X M d (pc + 1) lv (.int (x &&& y) :: st) h rc rs Q) : pz_W X M d pc lv (.int y :: .int x :: st) h rc rs Q := by
  intro p l e R s m args below meth c Z H locs cells slots ls I hL
  exact lv_iand I.1.1 I.1.2.1 hdg (kk p l e R s m args below meth c Z H locs cells slots ls I hL)
theorem pz_ior {x y : Int32} (hdg : decode M.2.1 pc = .ok (.ior, 1))  (kk : pz_W X M d (pc + 1) lv (.int (x ||| y) :: st) h rc rs Q) : pz_W X M d pc lv (.int y :: .int x :: st) h rc rs Q := by
  intro p l e R s m args below meth c Z H locs cells slots ls I hL
  exact lv_ior I.1.1 I.1.2.1 hdg (kk p l e R s m args below meth c Z H locs cells slots ls I hL)
theorem pz_ixor {x y : Int32} (hdg : decode M.2.1 pc = .ok (.ixor, 1))  (kk : pz_W X M d (pc + 1) lv (.int (x ^^^ y) :: st) h rc rs Q) : pz_W X M d pc lv (.int y :: .int x :: st) h rc rs Q := by
  intro p l e R s m args below meth c Z H locs cells slots ls I hL
  exact lv_ixor I.1.1 I.1.2.1 hdg (kk p l e R s m args below meth c Z H locs cells slots ls I hL)
theorem pz_ishl {x y : Int32} (hdg : decode M.2.1 pc = .ok (.ishl, 1))  (kk : pz_W X M d (pc + 1) lv (.int (x <<< (y &&& 31)) :: st) h rc rs Q) : pz_W X M d pc lv (.int y :: .int x :: st) h rc rs Q := by
  intro p l e R s m args below meth c Z H locs cells slots ls I hL
  exact lv_ishl I.1.1 I.1.2.1 hdg (kk p l e R s m args below meth c Z H locs cells slots ls I hL)
theorem pz_ishr {x y : Int32} (hdg : decode M.2.1 pc = .ok (.ishr, 1))  (kk : pz_W X M d (pc + 1) lv (.int (x >>> (y &&& 31)) :: st) h rc rs Q) : pz_W X M d pc lv (.int y :: .int x :: st) h rc rs Q := by
  intro p l e R s m args below meth c Z H locs cells slots ls I hL
  exact lv_ishr I.1.1 I.1.2.1 hdg (kk p l e R s m args below meth c Z H locs cells slots ls I hL)
theorem pz_iushr {x y v : Int32} (hdg : decode M.2.1 pc = .ok (.iushr, 1)) (hv : (x.toUInt32 >>> (y.toUInt32 &&& Int32.toUInt32 31)).toInt32 = v) (kk : pz_W X M d (pc + 1) lv (.int v :: st) h rc rs Q) : pz_W X M d pc lv (.int y :: .int x :: st) h rc rs Q := by
  intro p l e R s m args below meth c Z H locs cells slots ls I hL
  exact lv_iushr I.1.1 I.1.2.1 hdg hv (kk p l e R s m args below meth c Z H locs cells slots ls I hL)
theorem pz_idiv {x y : Int32} (hdg : decode M.2.1 pc = .ok (.idiv, 1)) (hne : ¬ y = 0) (kk : pz_W X M d (pc + 1) lv (.int (x / y) :: st) h rc rs Q) : pz_W X M d pc lv (.int y :: .int x :: st) h rc rs Q := by
  intro p l e R s m args below meth c Z H locs cells slots ls I hL
  exact lv_idiv I.1.1 I.1.2.1 hdg hne (kk p l e R s m args below meth c Z H locs cells slots ls I hL)
theorem pz_irem {x y : Int32} (hdg : decode M.2.1 pc = .ok (.irem, 1)) (hne : ¬ y = 0) (kk : pz_W X M d (pc + 1) lv (.int (x - x / y * y) :: st) h rc rs Q) : pz_W X M d pc lv (.int y :: .int x :: st) h rc rs Q := by
  intro p l e R s m args below meth c Z H locs cells slots ls I hL
  exact lv_irem I.1.1 I.1.2.1 hdg hne (kk p l e R s m args below meth c Z H locs cells slots ls I hL)
theorem pz_ineg {x : Int32} (hdg : decode M.2.1 pc = .ok (.ineg, 1))  (kk : pz_W X M d (pc + 1) lv (.int (-x) :: st) h rc rs Q) : pz_W X M d pc lv (.int x :: st) h rc rs Q := by
  intro p l e R s m args below meth c Z H locs cells slots ls I hL
  exact lv_ineg I.1.1 I.1.2.1 hdg (kk p l e R s m args below meth c Z H locs cells slots ls I hL)
theorem pz_ladd {x y : Int64} (hdg : decode M.2.1 pc = .ok (.ladd, 1))  (kk : pz_W X M d (pc + 1) lv (.long (x + y) :: st) h rc rs Q) : pz_W X M d pc lv (.long y :: .long x :: st) h rc rs Q := by
  intro p l e R s m args below meth c Z H locs cells slots ls I hL
  exact lv_ladd I.1.1 I.1.2.1 hdg (kk p l e R s m args below meth c Z H locs cells slots ls I hL)
theorem pz_lsub {x y : Int64} (hdg : decode M.2.1 pc = .ok (.lsub, 1))  (kk : pz_W X M d (pc + 1) lv (.long (x - y) :: st) h rc rs Q) : pz_W X M d pc lv (.long y :: .long x :: st) h rc rs Q := by
  intro p l e R s m args below meth c Z H locs cells slots ls I hL
  exact lv_lsub I.1.1 I.1.2.1 hdg (kk p l e R s m args below meth c Z H locs cells slots ls I hL)
theorem pz_lmul {x y : Int64} (hdg : decode M.2.1 pc = .ok (.lmul, 1))  (kk : pz_W X M d (pc + 1) lv (.long (x * y) :: st) h rc rs Q) : pz_W X M d pc lv (.long y :: .long x :: st) h rc rs Q := by
  intro p l e R s m args below meth c Z H locs cells slots ls I hL
  exact lv_lmul I.1.1 I.1.2.1 hdg (kk p l e R s m args below meth c Z H locs cells slots ls I hL)
theorem pz_land {x y : Int64} (hdg : decode M.2.1 pc = .ok (.land, 1))  (kk : pz_W X M d (pc + 1) lv (.long (x &&& y) :: st) h rc rs Q) : pz_W X M d pc lv (.long y :: .long x :: st) h rc rs Q := by
  intro p l e R s m args below meth c Z H locs cells slots ls I hL
  exact lv_land I.1.1 I.1.2.1 hdg (kk p l e R s m args below meth c Z H locs cells slots ls I hL)
theorem pz_lor {x y : Int64} (hdg : decode M.2.1 pc = .ok (.lor, 1))  (kk : pz_W X M d (pc + 1) lv (.long (x ||| y) :: st) h rc rs Q) : pz_W X M d pc lv (.long y :: .long x :: st) h rc rs Q := by
  intro p l e R s m args below meth c Z H locs cells slots ls I hL
  exact lv_lor I.1.1 I.1.2.1 hdg (kk p l e R s m args below meth c Z H locs cells slots ls I hL)
theorem pz_lxor {x y : Int64} (hdg : decode M.2.1 pc = .ok (.lxor, 1))  (kk : pz_W X M d (pc + 1) lv (.long (x ^^^ y) :: st) h rc rs Q) : pz_W X M d pc lv (.long y :: .long x :: st) h rc rs Q := by
  intro p l e R s m args below meth c Z H locs cells slots ls I hL
  exact lv_lxor I.1.1 I.1.2.1 hdg (kk p l e R s m args below meth c Z H locs cells slots ls I hL)
theorem pz_ldiv {x y : Int64} (hdg : decode M.2.1 pc = .ok (.ldiv, 1)) (hne : ¬ y = 0) (kk : pz_W X M d (pc + 1) lv (.long (x / y) :: st) h rc rs Q) : pz_W X M d pc lv (.long y :: .long x :: st) h rc rs Q := by
  intro p l e R s m args below meth c Z H locs cells slots ls I hL
  exact lv_ldiv I.1.1 I.1.2.1 hdg hne (kk p l e R s m args below meth c Z H locs cells slots ls I hL)
theorem pz_lrem {x y : Int64} (hdg : decode M.2.1 pc = .ok (.lrem, 1)) (hne : ¬ y = 0) (kk : pz_W X M d (pc + 1) lv (.long (x - x / y * y) :: st) h rc rs Q) : pz_W X M d pc lv (.long y :: .long x :: st) h rc rs Q := by
  intro p l e R s m args below meth c Z H locs cells slots ls I hL
  exact lv_lrem I.1.1 I.1.2.1 hdg hne (kk p l e R s m args below meth c Z H locs cells slots ls I hL)
theorem pz_lshl {x v : Int64} {y : Int32} (hdg : decode M.2.1 pc = .ok (.lshl, 1)) (hv : x <<< (y.toInt64 &&& 63) = v) (kk : pz_W X M d (pc + 1) lv (.long v :: st) h rc rs Q) : pz_W X M d pc lv (.int y :: .long x :: st) h rc rs Q := by
  intro p l e R s m args below meth c Z H locs cells slots ls I hL
  exact lv_lshl I.1.1 I.1.2.1 hdg hv (kk p l e R s m args below meth c Z H locs cells slots ls I hL)
theorem pz_lshr {x v : Int64} {y : Int32} (hdg : decode M.2.1 pc = .ok (.lshr, 1)) (hv : x >>> (y.toInt64 &&& 63) = v) (kk : pz_W X M d (pc + 1) lv (.long v :: st) h rc rs Q) : pz_W X M d pc lv (.int y :: .long x :: st) h rc rs Q := by
  intro p l e R s m args below meth c Z H locs cells slots ls I hL
  exact lv_lshr I.1.1 I.1.2.1 hdg hv (kk p l e R s m args below meth c Z H locs cells slots ls I hL)
theorem pz_lcmp {x y : Int64} (hdg : decode M.2.1 pc = .ok (.lcmp, 1))  (kk : pz_W X M d (pc + 1) lv (.int (lg_cmp x y) :: st) h rc rs Q) : pz_W X M d pc lv (.long y :: .long x :: st) h rc rs Q := by
  intro p l e R s m args below meth c Z H locs cells slots ls I hL
  exact W.lcmp I.1.1 I.1.2.1 hdg (kk p l e R s m args below meth c Z H locs cells slots ls I hL)
theorem pz_i2l {x : Int32} (hdg : decode M.2.1 pc = .ok (.i2l, 1))  (kk : pz_W X M d (pc + 1) lv (.long x.toInt64 :: st) h rc rs Q) : pz_W X M d pc lv (.int x :: st) h rc rs Q := by
  intro p l e R s m args below meth c Z H locs cells slots ls I hL
  exact lv_i2l I.1.1 I.1.2.1 hdg rfl (kk p l e R s m args below meth c Z H locs cells slots ls I hL)
theorem pz_l2i {x : Int64} (hdg : decode M.2.1 pc = .ok (.l2i, 1))  (kk : pz_W X M d (pc + 1) lv (.int x.toInt32 :: st) h rc rs Q) : pz_W X M d pc lv (.long x :: st) h rc rs Q := by
  intro p l e R s m args below meth c Z H locs cells slots ls I hL
  exact lv_l2i I.1.1 I.1.2.1 hdg rfl (kk p l e R s m args below meth c Z H locs cells slots ls I hL)
theorem pz_dup {va : Value} (hdg : decode M.2.1 pc = .ok (.dup, 1)) (hva : va.category = 1) (kk : pz_W X M d (pc + 1) lv (va :: va :: st) h rc rs Q) : pz_W X M d pc lv (va :: st) h rc rs Q := by
  intro p l e R s m args below meth c Z H locs cells slots ls I hL
  exact lv_dup I.1.1 I.1.2.1 hdg hva (kk p l e R s m args below meth c Z H locs cells slots ls I hL)
theorem pz_pop {va : Value} (hdg : decode M.2.1 pc = .ok (.pop, 1)) (hva : va.category = 1) (kk : pz_W X M d (pc + 1) lv (st) h rc rs Q) : pz_W X M d pc lv (va :: st) h rc rs Q := by
  intro p l e R s m args below meth c Z H locs cells slots ls I hL
  exact lv_pop I.1.1 I.1.2.1 hdg hva (kk p l e R s m args below meth c Z H locs cells slots ls I hL)
theorem pz_dup_x1 {va vb : Value} (hdg : decode M.2.1 pc = .ok (.dup_x1, 1)) (hva : va.category = 1) (hvb : vb.category = 1) (kk : pz_W X M d (pc + 1) lv (va :: vb :: va :: st) h rc rs Q) : pz_W X M d pc lv (va :: vb :: st) h rc rs Q := by
  intro p l e R s m args below meth c Z H locs cells slots ls I hL
  exact lv_dup_x1 I.1.1 I.1.2.1 hdg hva hvb (kk p l e R s m args below meth c Z H locs cells slots ls I hL)
theorem pz_dup_x2 {va vb vd : Value} (hdg : decode M.2.1 pc = .ok (.dup_x2, 1)) (hva : va.category = 1) (hvb : vb.category = 1) (hvd : vd.category = 1) (kk : pz_W X M d (pc + 1) lv (va :: vb :: vd :: va :: st) h rc rs Q) : pz_W X M d pc lv (va :: vb :: vd :: st) h rc rs Q := by
  intro p l e R s m args below meth c Z H locs cells slots ls I hL
  exact lv_dup_x2 I.1.1 I.1.2.1 hdg hva hvb hvd (kk p l e R s m args below meth c Z H locs cells slots ls I hL)
theorem pz_dup2 {va vb : Value} (hdg : decode M.2.1 pc = .ok (.dup2, 1)) (hva : va.category = 1) (hvb : vb.category = 1) (kk : pz_W X M d (pc + 1) lv (va :: vb :: va :: vb :: st) h rc rs Q) : pz_W X M d pc lv (va :: vb :: st) h rc rs Q := by
  intro p l e R s m args below meth c Z H locs cells slots ls I hL
  exact lv_dup2_11 I.1.1 I.1.2.1 hdg hva hvb (kk p l e R s m args below meth c Z H locs cells slots ls I hL)
theorem pz_if_eq {x : Int32} {off : Int} {tgt : Nat} (hdg : decode M.2.1 pc = .ok (.ifCond .eq off, 3)) (ht : (pc : Int) + off = (tgt : Int)) (kt : x = 0 → pz_W X M d tgt lv st h rc rs Q) (kf : ¬ x = 0 → pz_W X M d (pc + 3) lv st h rc rs Q) : pz_W X M d pc lv (.int x :: st) h rc rs Q := by
  intro p l e R s m args below meth c Z H locs cells slots ls I hL
  exact lv_if_eq I.1.1 I.1.2.1 hdg ht (fun z => kt z p l e R s m args below meth c Z H locs cells slots ls I hL) (fun z => kf z p l e R s m args below meth c Z H locs cells slots ls I hL)
theorem pz_icmp_eq {x y : Int32} {off : Int} {tgt : Nat} (hdg : decode M.2.1 pc = .ok (.if_icmp .eq off, 3)) (ht : (pc : Int) + off = (tgt : Int)) (kt : x = y → pz_W X M d tgt lv st h rc rs Q) (kf : ¬ x = y → pz_W X M d (pc + 3) lv st h rc rs Q) : pz_W X M d pc lv (.int y :: .int x :: st) h rc rs Q := by
  intro p l e R s m args below meth c Z H locs cells slots ls I hL
  exact lv_icmp_eq I.1.1 I.1.2.1 hdg ht (fun z => kt z p l e R s m args below meth c Z H locs cells slots ls I hL) (fun z => kf z p l e R s m args below meth c Z H locs cells slots ls I hL)
theorem pz_if_ne {x : Int32} {off : Int} {tgt : Nat} (hdg : decode M.2.1 pc = .ok (.ifCond .ne off, 3)) (ht : (pc : Int) + off = (tgt : Int)) (kt : ¬ x = 0 → pz_W X M d tgt lv st h rc rs Q) (kf : x = 0 → pz_W X M d (pc + 3) lv st h rc rs Q) : pz_W X M d pc lv (.int x :: st) h rc rs Q := by
  intro p l e R s m args below meth c Z H locs cells slots ls I hL
  exact lv_if_ne I.1.1 I.1.2.1 hdg ht (fun z => kt z p l e R s m args below meth c Z H locs cells slots ls I hL) (fun z => kf z p l e R s m args below meth c Z H locs cells slots ls I hL)
theorem pz_icmp_ne {x y : Int32} {off : Int} {tgt : Nat} (hdg : decode M.2.1 pc = .ok (.if_icmp .ne off, 3)) (ht : (pc : Int) + off = (tgt : Int)) (kt : ¬ x = y → pz_W X M d tgt lv st h rc rs Q) (kf : x = y → pz_W X M d (pc + 3) lv st h rc rs Q) : pz_W X M d pc lv (.int y :: .int x :: st) h rc rs Q := by
  intro p l e R s m args below meth c Z H locs cells slots ls I hL
  exact lv_icmp_ne I.1.1 I.1.2.1 hdg ht (fun z => kt z p l e R s m args below meth c Z H locs cells slots ls I hL) (fun z => kf z p l e R s m args below meth c Z H locs cells slots ls I hL)
theorem pz_if_lt {x : Int32} {off : Int} {tgt : Nat} (hdg : decode M.2.1 pc = .ok (.ifCond .lt off, 3)) (ht : (pc : Int) + off = (tgt : Int)) (kt : x < 0 → pz_W X M d tgt lv st h rc rs Q) (kf : ¬ x < 0 → pz_W X M d (pc + 3) lv st h rc rs Q) : pz_W X M d pc lv (.int x :: st) h rc rs Q := by
  intro p l e R s m args below meth c Z H locs cells slots ls I hL
  exact lv_if_lt I.1.1 I.1.2.1 hdg ht (fun z => kt z p l e R s m args below meth c Z H locs cells slots ls I hL) (fun z => kf z p l e R s m args below meth c Z H locs cells slots ls I hL)
theorem pz_icmp_lt {x y : Int32} {off : Int} {tgt : Nat} (hdg : decode M.2.1 pc = .ok (.if_icmp .lt off, 3)) (ht : (pc : Int) + off = (tgt : Int)) (kt : x < y → pz_W X M d tgt lv st h rc rs Q) (kf : ¬ x < y → pz_W X M d (pc + 3) lv st h rc rs Q) : pz_W X M d pc lv (.int y :: .int x :: st) h rc rs Q := by
  intro p l e R s m args below meth c Z H locs cells slots ls I hL
  exact lv_icmp_lt I.1.1 I.1.2.1 hdg ht (fun z => kt z p l e R s m args below meth c Z H locs cells slots ls I hL) (fun z => kf z p l e R s m args below meth c Z H locs cells slots ls I hL)
theorem pz_if_ge {x : Int32} {off : Int} {tgt : Nat} (hdg : decode M.2.1 pc = .ok (.ifCond .ge off, 3)) (ht : (pc : Int) + off = (tgt : Int)) (kt : 0 ≤ x → pz_W X M d tgt lv st h rc rs Q) (kf : ¬ 0 ≤ x → pz_W X M d (pc + 3) lv st h rc rs Q) : pz_W X M d pc lv (.int x :: st) h rc rs Q := by
  intro p l e R s m args below meth c Z H locs cells slots ls I hL
  exact lv_if_ge I.1.1 I.1.2.1 hdg ht (fun z => kt z p l e R s m args below meth c Z H locs cells slots ls I hL) (fun z => kf z p l e R s m args below meth c Z H locs cells slots ls I hL)
theorem pz_icmp_ge {x y : Int32} {off : Int} {tgt : Nat} (hdg : decode M.2.1 pc = .ok (.if_icmp .ge off, 3)) (ht : (pc : Int) + off = (tgt : Int)) (kt : y ≤ x → pz_W X M d tgt lv st h rc rs Q) (kf : ¬ y ≤ x → pz_W X M d (pc + 3) lv st h rc rs Q) : pz_W X M d pc lv (.int y :: .int x :: st) h rc rs Q := by
  intro p l e R s m args below meth c Z H locs cells slots ls I hL
  exact lv_icmp_ge I.1.1 I.1.2.1 hdg ht (fun z => kt z p l e R s m args below meth c Z H locs cells slots ls I hL) (fun z => kf z p l e R s m args below meth c Z H locs cells slots ls I hL)
theorem pz_if_gt {x : Int32} {off : Int} {tgt : Nat} (hdg : decode M.2.1 pc = .ok (.ifCond .gt off, 3)) (ht : (pc : Int) + off = (tgt : Int)) (kt : 0 < x → pz_W X M d tgt lv st h rc rs Q) (kf : ¬ 0 < x → pz_W X M d (pc + 3) lv st h rc rs Q) : pz_W X M d pc lv (.int x :: st) h rc rs Q := by
  intro p l e R s m args below meth c Z H locs cells slots ls I hL
  exact lv_if_gt I.1.1 I.1.2.1 hdg ht (fun z => kt z p l e R s m args below meth c Z H locs cells slots ls I hL) (fun z => kf z p l e R s m args below meth c Z H locs cells slots ls I hL)
theorem pz_icmp_gt {x y : Int32} {off : Int} {tgt : Nat} (hdg : decode M.2.1 pc = .ok (.if_icmp .gt off, 3)) (ht : (pc : Int) + off = (tgt : Int)) (kt : y < x → pz_W X M d tgt lv st h rc rs Q) (kf : ¬ y < x → pz_W X M d (pc + 3) lv st h rc rs Q) : pz_W X M d pc lv (.int y :: .int x :: st) h rc rs Q := by
  intro p l e R s m args below meth c Z H locs cells slots ls I hL
  exact lv_icmp_gt I.1.1 I.1.2.1 hdg ht (fun z => kt z p l e R s m args below meth c Z H locs cells slots ls I hL) (fun z => kf z p l e R s m args below meth c Z H locs cells slots ls I hL)
theorem pz_if_le {x : Int32} {off : Int} {tgt : Nat} (hdg : decode M.2.1 pc = .ok (.ifCond .le off, 3)) (ht : (pc : Int) + off = (tgt : Int)) (kt : x ≤ 0 → pz_W X M d tgt lv st h rc rs Q) (kf : ¬ x ≤ 0 → pz_W X M d (pc + 3) lv st h rc rs Q) : pz_W X M d pc lv (.int x :: st) h rc rs Q := by
  intro p l e R s m args below meth c Z H locs cells slots ls I hL
  exact lv_if_le I.1.1 I.1.2.1 hdg ht (fun z => kt z p l e R s m args below meth c Z H locs cells slots ls I hL) (fun z => kf z p l e R s m args below meth c Z H locs cells slots ls I hL)
theorem pz_icmp_le {x y : Int32} {off : Int} {tgt : Nat} (hdg : decode M.2.1 pc = .ok (.if_icmp .le off, 3)) (ht : (pc : Int) + off = (tgt : Int)) (kt : x ≤ y → pz_W X M d tgt lv st h rc rs Q) (kf : ¬ x ≤ y → pz_W X M d (pc + 3) lv st h rc rs Q) : pz_W X M d pc lv (.int y :: .int x :: st) h rc rs Q := by
  intro p l e R s m args below meth c Z H locs cells slots ls I hL
  exact lv_icmp_le I.1.1 I.1.2.1 hdg ht (fun z => kt z p l e R s m args below meth c Z H locs cells slots ls I hL) (fun z => kf z p l e R s m args below meth c Z H locs cells slots ls I hL)
theorem pz_goto {off : Int} {tgt : Nat} (hdg : decode M.2.1 pc = .ok (.goto off, 3)) (ht : (pc : Int) + off = (tgt : Int)) (kk : pz_W X M d tgt lv st h rc rs Q) : pz_W X M d pc lv st h rc rs Q := by
  intro p l e R s m args below meth c Z H locs cells slots ls I hL
  exact lv_goto I.1.1 I.1.2.1 hdg ht (kk p l e R s m args below meth c Z H locs cells slots ls I hL)
theorem pz_ifnull {x : Nat} {off : Int} (hdg : decode M.2.1 pc = .ok (.ifnull off, 3)) (kk : pz_W X M d (pc + 3) lv st h rc rs Q) : pz_W X M d pc lv (.ref x :: st) h rc rs Q := by
  intro p l e R s m args below meth c Z H locs cells slots ls I hL
  exact lv_ifnull I.1.1 I.1.2.1 hdg (kk p l e R s m args below meth c Z H locs cells slots ls I hL)
theorem pz_ifnullN {off : Int} {tgt : Nat} (hdg : decode M.2.1 pc = .ok (.ifnull off, 3)) (ht : (pc : Int) + off = (tgt : Int)) (kk : pz_W X M d tgt lv st h rc rs Q) : pz_W X M d pc lv (.null :: st) h rc rs Q := by
  intro p l e R s m args below meth c Z H locs cells slots ls I hL
  exact lv_ifnullN I.1.1 I.1.2.1 hdg ht (kk p l e R s m args below meth c Z H locs cells slots ls I hL)
theorem pz_ifnonnull {x : Nat} {off : Int} {tgt : Nat} (hdg : decode M.2.1 pc = .ok (.ifnonnull off, 3)) (ht : (pc : Int) + off = (tgt : Int)) (kk : pz_W X M d tgt lv st h rc rs Q) : pz_W X M d pc lv (.ref x :: st) h rc rs Q := by
  intro p l e R s m args below meth c Z H locs cells slots ls I hL
  exact lv_ifnonnull I.1.1 I.1.2.1 hdg ht (kk p l e R s m args below meth c Z H locs cells slots ls I hL)
theorem pz_ifnonnullN {off : Int} (hdg : decode M.2.1 pc = .ok (.ifnonnull off, 3)) (kk : pz_W X M d (pc + 3) lv st h rc rs Q) : pz_W X M d pc lv (.null :: st) h rc rs Q := by
  intro p l e R s m args below meth c Z H locs cells slots ls I hL
  exact lv_ifnonnullN I.1.1 I.1.2.1 hdg (kk p l e R s m args below meth c Z H locs cells slots ls I hL)
theorem pz_tableIn {dflt lo hi : Int} {offs : Array Int} {len : Nat} {x : Int32} {off : Int} {tgt : Nat} (hdg : decode M.2.1 pc = .ok (.tableswitch dflt lo hi offs, len)) (h1 : ¬ x.toInt < lo) (h2 : ¬ hi < x.toInt) (ho : offs[(x.toInt - lo).toNat]? = some off) (ht : (pc : Int) + off = (tgt : Int)) (kk : pz_W X M d tgt lv st h rc rs Q) : pz_W X M d pc lv (.int x :: st) h rc rs Q := by
  intro p l e R s m args below meth c Z H locs cells slots ls I hL
  exact lv_tableIn I.1.1 I.1.2.1 hdg h1 h2 ho ht (kk p l e R s m args below meth c Z H locs cells slots ls I hL)
theorem pz_tableOut {dflt lo hi : Int} {offs : Array Int} {len : Nat} {x : Int32} {tgt : Nat} (hdg : decode M.2.1 pc = .ok (.tableswitch dflt lo hi offs, len)) (hx : x.toInt < lo ∨ hi < x.toInt) (ht : (pc : Int) + dflt = (tgt : Int)) (kk : pz_W X M d tgt lv st h rc rs Q) : pz_W X M d pc lv (.int x :: st) h rc rs Q := by
  intro p l e R s m args below meth c Z H locs cells slots ls I hL
  exact lv_tableOut I.1.1 I.1.2.1 hdg hx ht (kk p l e R s m args below meth c Z H locs cells slots ls I hL)
theorem pz_ldc {index : Nat} {v : Int32} (hdg : decode M.2.1 pc = .ok (.ldc index, 2)) (hw : Jvm.Cond.constant M.1.cls index v ∈ pz_U) (kk : pz_W X M d (pc + 2) lv (.int v :: st) h rc rs Q) : pz_W X M d pc lv st h rc rs Q := by
  intro p l e R s m args below meth c Z H locs cells slots ls I hL
  exact lv_ldc I.1.1 I.1.2.1 I.1.2.2.2.1 (I.1.2.2.2.2.1 _ hw) hdg (kk p l e R s m args below meth c Z H locs cells slots ls I hL)
theorem pz_ret {r : Option Value} (hr : pz_rt M pc r) (hq : Q r h) : pz_W X M d pc lv (r.toList) h rc rs Q := by
  intro p l e R s m args below meth c Z H locs cells slots ls I hL
  obtain ⟨hC, hB, hZ, hR, hS, hc, hs⟩ := I
  exact W.widen (by omega) (by omega) (hZ r h H locs pc ls hq hR hS hr)
theorem pz_ireturn {v : Int32} {ty : FieldType} (hdg : decode M.2.1 pc = .ok (.ireturn, 1)) (ht : M.2.2.2 = some ty) (hn : narrow ty (.int v) = .int v) (hq : Q (some (.int v)) h) : pz_W X M d pc lv [.int v] h rc rs Q := pz_ret (r := some (.int v)) ⟨ty, ht, hn, hdg⟩ hq
theorem pz_lreturn {v : Int64} (hdg : decode M.2.1 pc = .ok (.lreturn, 1)) (ht : M.2.2.2 = some .long) (hq : Q (some (.long v)) h) : pz_W X M d pc lv [.long v] h rc rs Q := pz_ret (r := some (.long v)) ⟨ht, hdg⟩ hq
theorem pz_return (hdg : decode M.2.1 pc = .ok (.return_, 1)) (ht : M.2.2.2 = none) (hq : Q none h) : pz_W X M d pc lv [] h rc rs Q := pz_ret (r := none) ⟨ht, hdg⟩ hq
theorem pz_areturn {a : Nat} {C : String} (hdg : decode M.2.1 pc = .ok (.areturn, 1)) (ht : M.2.2.2 = some (.object C)) (hq : Q (some (.ref a)) h) : pz_W X M d pc lv [.ref a] h rc rs Q := pz_ret (r := some (.ref a)) ⟨⟨_, ht, Or.inl ⟨C, rfl⟩⟩, hdg⟩ hq
theorem pz_areturnN {C : String} (hdg : decode M.2.1 pc = .ok (.areturn, 1)) (ht : M.2.2.2 = some (.object C)) (hq : Q (some .null) h) : pz_W X M d pc lv [.null] h rc rs Q := pz_ret (r := some .null) ⟨⟨_, ht, Or.inl ⟨C, rfl⟩⟩, hdg⟩ hq
end PZR
end
section
/-! HEAP ROWS of the program logic -/
theorem pz_one {X : pz_X} {H : Heap} {q : Nat × va_E} (h : va_at X.1 vwCl q H) : va_P X.1 vwCl [q] H := by
  intro k x hk
  cases k with
  | zero => cases hk; exact h
  | succ k => simp at hk
/-- a link to a field: class ci, field k -/
def pz_FL (own : String) (idx ci k : Nat) : Prop := ∃ (C : String) (T : u_T) (N : Nat), vwCl[ci]? = some (C, T, N) ∧ k < N ∧ (∀ w ∈ u_ws C T N, w ∈ pz_U) ∧ Cond.fieldLink own idx (T k).1 (T k).2.1 (T k).2.2.1 ∈ pz_U
/-- and what a store to it needs: fin: it is final, and the storing method is a constructor -/
def pz_FP (own : String) (idx ci k : Nat) (ty : FieldType) (fin : Bool) : Prop := ∃ (C : String) (T : u_T) (N : Nat) (ty0 : Nat → FieldType), vwCl[ci]? = some (C, T, N) ∧ k < N ∧ (∀ w ∈ u_ws C T N, w ∈ pz_U) ∧ Cond.fieldLink own idx (T k).1 (T k).2.1 (T k).2.2.1 ∈ pz_U ∧ (∀ k, k < N → parseFieldDescriptor (T k).2.2.1 = some (ty0 k)) ∧ (∀ a, a < N → ∀ b, b < N → a ≠ b → (T a).2.1 ≠ (T b).2.1) ∧ (T k).2.2.2 = fin ∧ parseFieldDescriptor (T k).2.2.1 = some ty ∧ (fin = true → (T k).1 = own)
section PZH
variable {X : pz_X} {M : pz_M} {d pc rc rs : Nat} {lv : List (Nat × Value)} {st : List Value} {h : pz_H} {Q : Option Value → pz_H → Prop}
theorem pz_I.to {X : pz_X} {M : pz_M} {d : Nat} {h h' : pz_H} {rc rs rc' rs' : Nat} {Q : Option Value → pz_H → Prop} {p : Program} {l : Launch} {e : Env} {R : Room} {s : State} {m : MethodId} {args : Array Value} {below : List Frame} {meth : Method} {c : Code} {Z : State → Prop} {H H' : Heap} {locs locs' : List Loc} {cells slots cells' slots' : Nat} (I : pz_I X M d h rc rs Q p l e R s m args below meth c Z H locs cells slots) (hR : pz_R X h' H') (hS : va_S (pz_A X) s.heap H' locs') (hc : cells' + rc' ≤ R.cells) (hs : slots' + rs' ≤ R.slots) : pz_I X M d h' rc' rs' Q p l e R s m args below meth c Z H' locs' cells' slots' := ⟨I.1, I.2.1, I.2.2.1, hR, hS, hc, hs⟩
theorem pz_get {idx ci k a : Nat} {fs : List Value} {v : Value} (hdg : decode M.2.1 pc = .ok (.getfield idx, 3)) (hF : pz_FL M.1.cls idx ci k) (hG : h.1 a = some (.inr (ci, fs))) (hv : fs[k]? = some v) (kk : pz_W X M d (pc + 3) lv (v :: st) h rc rs Q) : pz_W X M d pc lv (.ref a :: st) h rc rs Q := by
  intro p l e R s m args below meth c Z H locs cells slots ls I hL
  obtain ⟨C, T, N, hc, hk, hin, hl⟩ := hF
  exact va_get I.1.1 I.1.2.1 I.1.2.2.2.2.1 hin I.1.2.2.2.1 I.1.2.2.2.2.2.1.1 (pz_one (I.2.2.2.1.2.2 _ _ hG).2) 0 rfl hc k hk (I.1.2.2.2.2.1 _ hl) (fun _ h9 => h9) hv hdg (kk p l e R s m args below meth c Z H locs cells slots ls I hL)
theorem pz_put {idx ci k a : Nat} {fs : List Value} {v : Value} {ty : FieldType} (hdg : decode M.2.1 pc = .ok (.putfield idx, 3)) (hF : pz_FP M.1.cls idx ci k ty false) (hG : h.1 a = some (.inr (ci, fs))) (hn : narrow ty v = v) (hfit : fits ty v = true) (hlen : k < fs.length) (kk : pz_W X M d (pc + 3) lv st (pz_up h a (.inr (ci, fs.set k v))) rc rs Q) : pz_W X M d pc lv (v :: .ref a :: st) h rc rs Q := by
  intro p l e R s m args below meth c Z H locs cells slots ls I hL
  obtain ⟨C, T, N, ty0, hc, hk, hin, hlk, hty, hnm, hfin, hd, -⟩ := hF
  have hK := I.1.2.2.2.2.2.1.1
  have hts := I.1.2.2.2.2.1
  have hap := va_apart (own := M.1.cls) hts hin ty0 hty hnm hK hc
  obtain ⟨hB, r, h1, cell, q1, q2, q3, q4⟩ := I.2.2.2.1.2.2 _ _ hG
  have hr : r = (C, T, N) := Option.some.inj (h1.symm.trans hc)
  subst hr
  obtain ⟨hS, hfc, kC, hkC, hkind⟩ := hK.1 ci _ hc
  obtain ⟨cf, kf, fi, f, hi, hsl⟩ := hS k hk
  have hlay := hts _ (hin _ (u_in_lay hk))
  unfold u_lay at hlay
  rw [if_neg (by rw [hfin]; decide)] at hlay
  have hst := (u_facts hfc hkC (u_lays hts hin hk) hi).1
  have h6 := u_store hfc hkC hkind hlay hi hd hn hfit
  refine W.putK I.1.1 I.1.2.1 (f := f) ⟨I.1.2.2.2.1, hts _ hlk, ⟨_, _, _, hi⟩, hst⟩ (by rw [q2]; exact h6) q1 q3 (by rw [hsl]; exact k2_hasslot (q4 k hk)) rfl rfl hdg fun H' e1 e2 e3 => ?_
  rw [hsl] at e1 ⊢
  exact kk p l e R s m args below meth c Z H' _ cells slots ls (I.to (I.2.2.2.1.set hG ⟨_, hc, t_OB.to (V := updV (vp_V fs) k v) ⟨_, e1, q2, q3, t_set q4 hap hk v⟩ (fun j _ => vp_updV_set hlen v j)⟩ e2 e3) (I.2.2.2.2.1.put e2 e3 hB) I.2.2.2.2.2.1 I.2.2.2.2.2.2) hL
theorem pz_putF {idx ci k a : Nat} {fs : List Value} {v : Value} {ty : FieldType} (hdg : decode M.2.1 pc = .ok (.putfield idx, 3)) (hF : pz_FP M.1.cls idx ci k ty true) (hini : M.1.name = "<init>") (hG : h.1 a = some (.inr (ci, fs))) (hn : narrow ty v = v) (hfit : fits ty v = true) (hlen : k < fs.length) (kk : pz_W X M d (pc + 3) lv st (pz_up h a (.inr (ci, fs.set k v))) rc rs Q) : pz_W X M d pc lv (v :: .ref a :: st) h rc rs Q := by
  intro p l e R s m args below meth c Z H locs cells slots ls I hL
  obtain ⟨C, T, N, ty0, hc, hk, hin, hlk, hty, hnm, hfin, hd, hdecl⟩ := hF
  have hdecl := hdecl rfl
  have hK := I.1.2.2.2.2.2.1.1
  have hts := I.1.2.2.2.2.1
  have hown := I.1.2.2.2.1
  have hap := va_apart (own := M.1.cls) hts hin ty0 hty hnm hK hc
  obtain ⟨hB, r, h1, cell, q1, q2, q3, q4⟩ := I.2.2.2.1.2.2 _ _ hG
  have hr : r = (C, T, N) := Option.some.inj (h1.symm.trans hc)
  subst hr
  obtain ⟨hS, hfc, kC, hkC, hkind⟩ := hK.1 ci _ hc
  obtain ⟨cf, kf, fi, f, hi, hsl⟩ := hS k hk
  have hlay := hts _ (hin _ (u_in_lay hk))
  unfold u_lay at hlay
  rw [if_pos hfin] at hlay
  have hst := (u_facts hfc hkC (u_lays hts hin hk) hi).1
  have hcf : m.cls = cf := by
    obtain ⟨_, _, c', _, _, _, -, -, hf', -, -, -, hown2, -⟩ := Cond.laysFinal_spec hlay
    have e1 : c' = cf := by have := hi.symm.trans hf'; simp at this; exact this.1.symm
    rw [hdecl] at hown2
    rw [← e1]; exact Option.some.inj (hown.symm.trans hown2)
  have h6 := u_fits hfc hkC hkind (Or.inr hlay) hi hd hn hfit
  refine W.putFinK I.1.1 I.1.2.1 hown (hts _ hlk) hi hst hcf (I.1.2.2.2.2.2.2.1.trans hini) (by rw [q2]; exact h6) q1 q3 (by rw [hsl]; exact k2_hasslot (q4 k hk)) rfl rfl hdg fun H' e1 e2 e3 => ?_
  rw [hsl] at e1 ⊢
  exact kk p l e R s m args below meth c Z H' _ cells slots ls (I.to (I.2.2.2.1.set hG ⟨_, hc, t_OB.to (V := updV (vp_V fs) k v) ⟨_, e1, q2, q3, t_set q4 hap hk v⟩ (fun j _ => vp_updV_set hlen v j)⟩ e2 e3) (I.2.2.2.2.1.put e2 e3 hB) I.2.2.2.2.2.1 I.2.2.2.2.2.2) hL
theorem pz_iald {a n : Nat} {f : Nat → Int32} {i : Int32} (hdg : decode M.2.1 pc = .ok (.iaload, 1)) (hG : h.1 a = some (.inl (0, n, .inl f))) (hin : vp_in i n) (kk : pz_W X M d (pc + 1) lv (.int (f i.toNatClampNeg) :: st) h rc rs Q) : pz_W X M d pc lv (.int i :: .ref a :: st) h rc rs Q := by
  intro p l e R s m args below meth c Z H locs cells slots ls I hL
  exact va_iald I.1.1 I.1.2.1 I.1.2.2.2.2.2.1.1 (pz_one (I.2.2.2.1.2.2 _ _ hG).2) 0 0 rfl (pz_kt_at X (t := 0) rfl) hin hdg (kk p l e R s m args below meth c Z H locs cells slots ls I hL)
theorem pz_lald {a n : Nat} {f : Nat → Int64} {i : Int32} (hdg : decode M.2.1 pc = .ok (.laload, 1)) (hG : h.1 a = some (.inl (1, n, .inr (.inl f)))) (hin : vp_in i n) (kk : pz_W X M d (pc + 1) lv (.long (f i.toNatClampNeg) :: st) h rc rs Q) : pz_W X M d pc lv (.int i :: .ref a :: st) h rc rs Q := by
  intro p l e R s m args below meth c Z H locs cells slots ls I hL
  exact va_lald I.1.1 I.1.2.1 I.1.2.2.2.2.2.1.1 (pz_one (I.2.2.2.1.2.2 _ _ hG).2) 0 1 rfl (pz_kt_at X (t := 1) rfl) hin hdg (kk p l e R s m args below meth c Z H locs cells slots ls I hL)
theorem pz_zald {a n : Nat} {f : Nat → Int32} {i : Int32} (hdg : decode M.2.1 pc = .ok (.baload, 1)) (hG : h.1 a = some (.inl (4, n, .inl f))) (hin : vp_in i n) (kk : pz_W X M d (pc + 1) lv (.int (f i.toNatClampNeg) :: st) h rc rs Q) : pz_W X M d pc lv (.int i :: .ref a :: st) h rc rs Q := by
  intro p l e R s m args below meth c Z H locs cells slots ls I hL
  exact va_zald I.1.1 I.1.2.1 I.1.2.2.2.2.2.1.1 (pz_one (I.2.2.2.1.2.2 _ _ hG).2) 0 4 rfl (pz_kt_at X (t := 4) rfl) hin hdg (kk p l e R s m args below meth c Z H locs cells slots ls I hL)
theorem pz_aald {a n : Nat} {f : Nat → Option Nat} {i : Int32} (hdg : decode M.2.1 pc = .ok (.aaload, 1)) (hG : h.1 a = some (.inl (2, n, .inr (.inr (.inr (.inr f)))))) (hin : vp_in i n) (kk : pz_W X M d (pc + 1) lv (va_rf (f i.toNatClampNeg) :: st) h rc rs Q) : pz_W X M d pc lv (.int i :: .ref a :: st) h rc rs Q := by
  intro p l e R s m args below meth c Z H locs cells slots ls I hL
  exact va_aldq I.1.1 I.1.2.1 I.1.2.2.2.2.2.1.1 (pz_one (I.2.2.2.1.2.2 _ _ hG).2) 0 2 rfl (pz_kt_at X (t := 2) rfl) hin hdg (kk p l e R s m args below meth c Z H locs cells slots ls I hL)
theorem pz_aald2 {a n : Nat} {f : Nat → Option Nat} {i : Int32} (hdg : decode M.2.1 pc = .ok (.aaload, 1)) (hG : h.1 a = some (.inl (3, n, .inr (.inr (.inr (.inr f)))))) (hin : vp_in i n) (kk : pz_W X M d (pc + 1) lv (va_rf (f i.toNatClampNeg) :: st) h rc rs Q) : pz_W X M d pc lv (.int i :: .ref a :: st) h rc rs Q := by
  intro p l e R s m args below meth c Z H locs cells slots ls I hL
  have hlt : i.toNatClampNeg < n := Nat.not_le.mp fun q => hin (Or.inr q)
  exact W.aald (v := va_rf (f i.toNatClampNeg)) (ty := .array .int) I.1.1 I.1.2.1 (I.2.2.2.1.2.2 _ _ hG).2 ((I.1.2.2.2.2.2.1.1.2 3 _ (pz_kt_at X (t := 3) rfl)).1 n (fun j => va_rf (f j))) rfl (fun q => by cases q) (by show ¬ (i < 0 ∨ (arrV _ _ _).slots.size ≤ _); rw [arrV_size]; exact hin) (by show (arrV _ _ _).slots[_]? = _; rw [arrV_read _ _ hlt]) rfl rfl hdg (kk p l e R s m args below meth c Z H locs cells slots ls I hL)
theorem pz_iast {a n : Nat} {f : Nat → Int32} {i : Int32} {x : Int32} (hdg : decode M.2.1 pc = .ok (.iastore, 1)) (hG : h.1 a = some (.inl (0, n, .inl f))) (hin : vp_in i n) (kk : pz_W X M d (pc + 1) lv st (pz_up h a (.inl (0, n, .inl (upd f i.toNatClampNeg x)))) rc rs Q) : pz_W X M d pc lv (.int x :: .int i :: .ref a :: st) h rc rs Q := by
  intro p l e R s m args below meth c Z H locs cells slots ls I hL
  have hG1 := I.2.2.2.1.2.2 _ _ hG
  refine W.iast I.1.1 I.1.2.1 hG1.2 ((I.1.2.2.2.2.2.1.1.2 0 _ (pz_kt_at X (t := 0) rfl)).1 n (fun j => .int (f j))) (fun q => by cases q) (by show ¬ (i < 0 ∨ (arrV _ _ _).slots.size ≤ _); rw [arrV_size]; exact hin) rfl rfl hdg fun H1 e1 z oq => ?_
  refine kk p l e R s m args below meth c Z H1 _ cells slots ls (I.to (I.2.2.2.1.set hG ?_ z oq) (I.2.2.2.2.1.put z oq hG1.1) I.2.2.2.2.2.1 I.2.2.2.2.2.2) hL
  show H1[a]? = some (vp_cell _ _)
  rw [e1]
  show some ((vp_cell _ _).setSlot _ _) = _
  rw [vp_cell_i, vp_cell_i, arrV_store]
  congr 2
  funext q
  by_cases hq : q = i.toNatClampNeg
  · subst hq
    simp [updV, upd]
    try rfl
  · simp [updV, upd, hq]
theorem pz_last {a n : Nat} {f : Nat → Int64} {i : Int32} {x : Int64} (hdg : decode M.2.1 pc = .ok (.lastore, 1)) (hG : h.1 a = some (.inl (1, n, .inr (.inl f)))) (hin : vp_in i n) (kk : pz_W X M d (pc + 1) lv st (pz_up h a (.inl (1, n, .inr (.inl (vp_updL f i.toNatClampNeg x))))) rc rs Q) : pz_W X M d pc lv (.long x :: .int i :: .ref a :: st) h rc rs Q := by
  intro p l e R s m args below meth c Z H locs cells slots ls I hL
  have hG1 := I.2.2.2.1.2.2 _ _ hG
  refine W.last I.1.1 I.1.2.1 hG1.2 ((I.1.2.2.2.2.2.1.1.2 1 _ (pz_kt_at X (t := 1) rfl)).1 n (fun j => .long (f j))) (fun q => by cases q) (by show ¬ (i < 0 ∨ (arrV _ _ _).slots.size ≤ _); rw [arrV_size]; exact hin) rfl rfl hdg fun H1 e1 z oq => ?_
  refine kk p l e R s m args below meth c Z H1 _ cells slots ls (I.to (I.2.2.2.1.set hG ?_ z oq) (I.2.2.2.2.1.put z oq hG1.1) I.2.2.2.2.2.1 I.2.2.2.2.2.2) hL
  show H1[a]? = some (vp_cell _ _)
  rw [e1]
  show some ((vp_cell _ _).setSlot _ _) = _
  rw [vp_cell_l, vp_cell_l, arrV_store]
  congr 2
  funext q
  by_cases hq : q = i.toNatClampNeg
  · subst hq
    simp [updV, vp_updL]
    try rfl
  · simp [updV, vp_updL, hq]
theorem pz_zast {a n : Nat} {f : Nat → Int32} {i : Int32} {x : Int32} (hdg : decode M.2.1 pc = .ok (.bastore, 1)) (hG : h.1 a = some (.inl (4, n, .inl f))) (hin : vp_in i n) (kk : pz_W X M d (pc + 1) lv st (pz_up h a (.inl (4, n, .inl (upd f i.toNatClampNeg (vp_nar .boolean x))))) rc rs Q) : pz_W X M d pc lv (.int x :: .int i :: .ref a :: st) h rc rs Q := by
  intro p l e R s m args below meth c Z H locs cells slots ls I hL
  have hG1 := I.2.2.2.1.2.2 _ _ hG
  refine W.zast I.1.1 I.1.2.1 hG1.2 ((I.1.2.2.2.2.2.1.1.2 4 _ (pz_kt_at X (t := 4) rfl)).1 n (fun j => .int (f j))) (fun q => by cases q) (by show ¬ (i < 0 ∨ (arrV _ _ _).slots.size ≤ _); rw [arrV_size]; exact hin) rfl rfl hdg fun H1 e1 z oq => ?_
  refine kk p l e R s m args below meth c Z H1 _ cells slots ls (I.to (I.2.2.2.1.set hG ?_ z oq) (I.2.2.2.2.1.put z oq hG1.1) I.2.2.2.2.2.1 I.2.2.2.2.2.2) hL
  show H1[a]? = some (vp_cell _ _)
  rw [e1]
  show some ((vp_cell _ _).setSlot _ _) = _
  rw [vp_cell_i, vp_cell_i, arrV_store]
  congr 2
  funext q
  by_cases hq : q = i.toNatClampNeg
  · subst hq
    simp [updV, upd, vp_nar]
    try rfl
  · simp [updV, upd, vp_nar, hq]
theorem pz_alen {a t : Nat} {x : vp_A} {ty : FieldType} {v : Int32} (hdg : decode M.2.1 pc = .ok (.arraylength, 1)) (hG : h.1 a = some (.inl (t, x))) (ht : pz_ty[t]? = some ty) (hv : Int32.ofNat x.1 = v) (kk : pz_W X M d (pc + 1) lv (.int v :: st) h rc rs Q) : pz_W X M d pc lv (.ref a :: st) h rc rs Q := by
  intro p l e R s m args below meth c Z H locs cells slots ls I hL
  exact va_alen I.1.1 I.1.2.1 I.1.2.2.2.2.2.1.1 (pz_one (I.2.2.2.1.2.2 _ _ hG).2) 0 t rfl (pz_kt_at X ht) hv hdg (kk p l e R s m args below meth c Z H locs cells slots ls I hL)
theorem pz_aast {a n v ci : Nat} {vs : List Value} {f : Nat → Option Nat} {i : Int32} (hdg : decode M.2.1 pc = .ok (.aastore, 1)) (hG : h.1 a = some (.inl (2, n, .inr (.inr (.inr (.inr f)))))) (hV : h.1 v = some (.inr (1, vs))) (hin : vp_in i n) (kk : pz_W X M d (pc + 1) lv st (pz_up h a (.inl (2, n, .inr (.inr (.inr (.inr (va_up f i.toNatClampNeg (some v)))))))) rc rs Q) : pz_W X M d pc lv (.ref v :: .int i :: .ref a :: st) h rc rs Q := by
  intro p l e R s m args below meth c Z H locs cells slots ls I hL
  have hG1 := I.2.2.2.1.2.2 _ _ hG
  have hK := I.1.2.2.2.2.2.1.1
  have hlt : i.toNatClampNeg < n := Nat.not_le.mp fun q => hin (Or.inr q)
  have h0 : ¬ i < 0 := fun q => hin (Or.inl q)
  obtain ⟨-, r', hr', cellV, g1, g2, g3, -⟩ := I.2.2.2.1.2.2 _ _ hV
  have hcls := (hK.1 1 (RX1, TX1, 18) rfl).2
  obtain ⟨kA, comp, k1, k2, k3, -⟩ := (hK.2 2 _ (pz_kt_at X (t := 2) rfl)).2
  have hcomp : comp = X.1.1 1 := Option.some.inj (k3.symm.trans hcls.1)
  subst hcomp
  obtain ⟨kC, hkC, -⟩ := hcls.2
  refine W.aast I.1.1 I.1.2.1 hG1.2 (fun q h => by cases h) (fun h => by cases h) k1 k2 rfl hkC ⟨h0, by show _ < (arrV _ _ _).slots.size; rw [arrV_size]; exact hlt⟩ g1 (fun q h => by rw [g3] at h; cases h) (by rw [g2]; exact hkC) (by rw [g2]; exact va_assign hcls) rfl rfl hdg fun H1 e1 z oq => ?_
  refine kk p l e R s m args below meth c Z H1 _ cells slots ls (I.to (I.2.2.2.1.set hG ?_ z oq) (I.2.2.2.2.1.put z oq hG1.1) I.2.2.2.2.2.1 I.2.2.2.2.2.2) hL
  show H1[a]? = some (vp_cell _ _)
  rw [e1]
  show some ((vp_cell _ _).setSlot _ _) = _
  rw [vp_cell_q, vp_cell_q, arrV_store]
  congr 2
  funext q
  by_cases hq : q = i.toNatClampNeg
  · subst hq
    simp [updV, va_up, va_rf]
  · simp [updV, va_up, hq]
theorem pz_objInit {a idx : Nat} (hdg : decode M.2.1 pc = .ok (.invokespecial idx, 3)) (hl : Cond.methodLink M.1.cls idx objectInit ∈ pz_U) (hi : Cond.instanceMethod objectInit ∈ pz_U) (hcd : Cond.code objectInit ⟨#[0xb1]⟩ 1 none ∈ pz_U) (hr : (st.map fun v => v.category).sum ≤ 8) (kk : pz_W X M (d + 1) (pc + 3) lv st h rc rs Q) : pz_W X M (d + 1) pc lv (.ref a :: st) h rc rs Q := by
  intro p l e R s m args below meth c Z H locs cells slots ls I hL
  have hf := I.1.2.2.2.2.2.2.2.1
  have hlo := I.1.2.2.2.2.2.2.2.2
  exact W.objInit I.1.1 I.1.2.1 I.1.2.2.2.1 (I.1.2.2.2.2.1 _ hl) (I.1.2.2.2.2.1 _ hi) (I.1.2.2.2.2.1 _ hcd) rfl (by rw [I.1.2.2.1]; exact hL.1) rfl hdg (by omega) (by show 2 * 0 + _ + 12 ≤ _; omega) (W.eq (g2 := F0 m (pc + 3) ls st) rfl (kk p l e R s m args below meth c Z H locs cells slots ls I hL))
theorem pz_new {idx ci N : Nat} {C : String} {T : u_T} {ty : Nat → FieldType} {fs : List Value} (hdg : decode M.2.1 pc = .ok (.new idx, 3)) (hc : vwCl[ci]? = some (C, T, N)) (hin : ∀ w ∈ u_ws C T N, w ∈ pz_U) (hty : ∀ k, k < N → parseFieldDescriptor (T k).2.2.1 = some (ty k)) (h1 : Cond.classLink M.1.cls idx C ∈ pz_U) (h2 : Cond.instantiable C N ∈ pz_U) (h3 : Cond.initialized C ∈ pz_U) (hfs : ∀ j, j < N → defaultValue (ty j) = vp_V fs j)
    (kk : (∀ (q : Nat) (c : pz_E), h.1 q = some c → q < h.2) → pz_W X M d (pc + 3) lv (.ref h.2 :: st) (pz_nw h (.inr (ci, fs))) rc rs Q) : pz_W X M d pc lv st h (rc + 1) (rs + N) Q := by
  intro p l e R s m args below meth c Z H locs cells slots ls I hL
  have hK := I.1.2.2.2.2.2.1.1
  have hts := I.1.2.2.2.2.1
  have hR := I.2.2.2.1
  have hS := I.2.2.2.2.1
  have hcc := I.2.2.2.2.2.1
  have hss := I.2.2.2.2.2.2
  have hKn := hK.1 ci _ hc
  refine W.newcK I.1.1 I.1.2.1 I.1.2.2.2.1 (hts _ h1) (hts _ h2) (hts _ h3) rfl hdg (by omega) (by omega) hKn.2.1 hR.1 fun H1 kC hkC e1 z1 o1 => ?_
  exact kk (fun q c hq => hR.lt hq) p l e R s m args below meth c Z H1 locs (cells + 1) (slots + N) ls (I.to (hR.push ⟨_, hc, (u_born ty hts hin hKn hkC e1 hty).to hfs⟩ z1 o1) ⟨Nat.le_trans hS.1 (by rw [z1, hR.1]; omega), fun x g1 g2 => (o1 x (by rw [← hR.1]; exact Nat.lt_of_lt_of_le g1 hS.1)).trans (hS.2.1 x g1 g2), hS.2.2⟩ (by omega) (by omega)) hL
theorem pz_newa {t N : Nat} {at_ : ArrayType} {n : Int32} {a0 : vp_A} (hdg : decode M.2.1 pc = .ok (.newarray at_, 2)) (ht : pz_ty[t]? = some (newarray.typeOf at_)) (hp : ∀ (U : State) (cA : ClassId), va_RA U cA (newarray.typeOf at_) → U.vm.findClass ("[" ++ (newarray.typeOf at_).toString) = some cA) (hw : Cond.arrayClass (newarray.typeOf at_) ∈ pz_U) (ha : ∀ cA : ClassId, vp_cell cA a0 = arrV cA N (fun _ => defaultValue (newarray.typeOf at_))) (hn : ¬ n < 0) (hN : n.toNatClampNeg = N) (hby : N * componentBytes (newarray.typeOf at_) ≤ 536870912)
    (kk : (∀ (q : Nat) (c : pz_E), h.1 q = some c → q < h.2) → pz_W X M d (pc + 2) lv (.ref h.2 :: st) (pz_nw h (.inl (t, a0))) rc rs Q) : pz_W X M d pc lv (.int n :: st) h (rc + 1) (rs + N) Q := by
  intro p l e R s m args below meth c Z H locs cells slots ls I hL
  have hK := I.1.2.2.2.2.2.1.1
  have hts := I.1.2.2.2.2.1
  have hR := I.2.2.2.1
  have hS := I.2.2.2.2.1
  have hcc := I.2.2.2.2.2.1
  have hss := I.2.2.2.2.2.2
  refine va_newaK I.1.1 I.1.2.1 (hts _ hw) rfl hdg rfl hn hN hby (by omega) (by omega) hR.1 fun H1 cA e1 z1 o1 hAr hNm => ?_
  have hid : cA = X.2.1 t := Option.some.inj (hNm.symm.trans (hp _ _ (hK.2 t _ (pz_kt_at X ht)).2))
  subst hid
  refine kk (fun q c hq => hR.lt hq) p l e R s m args below meth c Z H1 locs (cells + 1) (slots + N) ls (I.to (hR.push ?_ z1 o1) ⟨Nat.le_trans hS.1 (by rw [z1, hR.1]; omega), fun x g1 g2 => (o1 x (by rw [← hR.1]; exact Nat.lt_of_lt_of_le g1 hS.1)).trans (hS.2.1 x g1 g2), hS.2.2⟩ (by omega) (by omega)) hL
  show H1[h.2]? = some (vp_cell _ _)
  rw [ha]
  exact e1
theorem pz_anew {N idx : Nat} {n : Int32} (hdg : decode M.2.1 pc = .ok (.anewarray idx, 3)) (hcl : Cond.classLink M.1.cls idx "CreaseFlat$Paper" ∈ pz_U) (hn : ¬ n < 0) (hN : n.toNatClampNeg = N) (hby : N * 4 ≤ 536870912)
    (kk : (∀ (q : Nat) (c : pz_E), h.1 q = some c → q < h.2) → pz_W X M d (pc + 3) lv (.ref h.2 :: st) (pz_nw h (.inl (2, N, .inr (.inr (.inr (.inr (fun _ => none))))))) rc rs Q) : pz_W X M d pc lv (.int n :: st) h (rc + 1) (rs + N) Q := by
  intro p l e R s m args below meth c Z H locs cells slots ls I hL
  have hK := I.1.2.2.2.2.2.1.1
  have hts := I.1.2.2.2.2.1
  have hR := I.2.2.2.1
  have hS := I.2.2.2.2.1
  have hcc := I.2.2.2.2.2.1
  have hss := I.2.2.2.2.2.2
  subst hN
  refine W.anew I.1.1 I.1.2.1 I.1.2.2.2.1 (hts _ hcl) (va_AO.use (I.1.2.2.2.2.2.1.2.2.2 _ List.mem_cons_self)) rfl hdg rfl hn hby (by omega) (by omega) fun cA kA comp f1 f2 f3 f4 => ?_
  have hid : cA = X.2.1 2 := by
    obtain ⟨kA, comp, k1, k2, k3, k4⟩ := (hK.2 2 _ (pz_kt_at X (t := 2) rfl)).2
    exact Option.some.inj (f1.symm.trans k4)
  subst hid
  generalize hH1 : H.push ({ cls := X.2.1 2, slots := Array.replicate n.toNatClampNeg .null, vm := .none } : Cell) = H1
  have z1 : H1.size = H.size + 1 := by rw [← hH1, Array.size_push]
  have e1 : H1[H.size]? = some (arrV (X.2.1 2) n.toNatClampNeg (fun _ => .null)) := by rw [← hH1, Array.getElem?_push_size, ← arrV_new]
  have o1 : ∀ q : Nat, q < H.size → H1[q]? = H[q]? := fun q hq => by rw [← hH1, Array.getElem?_push, if_neg (Nat.ne_of_lt hq)]
  rw [hR.1] at z1 e1 o1 ⊢
  refine kk (fun q c hq => hR.lt hq) p l e R s m args below meth c Z H1 locs (cells + 1) (slots + n.toNatClampNeg) ls (I.to (hR.push ?_ z1 o1) ⟨Nat.le_trans hS.1 (by rw [z1, hR.1]; omega), fun x g1 g2 => (o1 x (by rw [← hR.1]; exact Nat.lt_of_lt_of_le g1 hS.1)).trans (hS.2.1 x g1 g2), hS.2.2⟩ (by omega) (by omega)) hL
  show H1[h.2]? = some (vp_cell _ _)
  rw [vp_cell_q, e1]
  rfl
theorem pz_mmin {idx : Nat} {x y : Int32} (hdg : decode M.2.1 pc = .ok (.invokestatic idx, 3)) (hl : Cond.methodLink M.1.cls idx Lib.Math.min.name ∈ pz_U) (hs1 : Cond.static Lib.Math.min.name ∈ pz_U) (hi : Cond.initialized "java/lang/Math" ∈ pz_U) (hcd : Cond.code Lib.Math.min.name Lib.Math.min.code 2 (some .int) ∈ pz_U) (hr : (st.map fun v => v.category).sum ≤ 8) (kk : pz_W X M (d + 1) (pc + 3) lv (.int (if y < x then y else x) :: st) h rc rs Q) : pz_W X M (d + 1) pc lv (.int y :: .int x :: st) h rc rs Q := by
  intro p l e R s m args below meth c Z H locs cells slots ls I hL
  have hf := I.1.2.2.2.2.2.2.2.1
  have hlo := I.1.2.2.2.2.2.2.2.2
  have hts := I.1.2.2.2.2.1
  have hcc := I.2.2.2.2.2.1
  have hss := I.2.2.2.2.2.2
  exact va_mmin I.1.1 I.1.2.1 (I.1.2.2.1.trans hL.1.symm) I.1.2.2.2.1 (hts _ hl) (hts _ hs1) (hts _ hi) (hts _ hcd) (by omega) (by omega) (by omega) (by omega) hdg (kk p l e R s m args below meth c Z H locs cells slots ls I hL)
theorem pz_mmax {idx : Nat} {x y : Int32} (hdg : decode M.2.1 pc = .ok (.invokestatic idx, 3)) (hl : Cond.methodLink M.1.cls idx Lib.Math.max.name ∈ pz_U) (hs1 : Cond.static Lib.Math.max.name ∈ pz_U) (hi : Cond.initialized "java/lang/Math" ∈ pz_U) (hcd : Cond.code Lib.Math.max.name Lib.Math.max.code 2 (some .int) ∈ pz_U) (hr : (st.map fun v => v.category).sum ≤ 8) (kk : pz_W X M (d + 1) (pc + 3) lv (.int (if x < y then y else x) :: st) h rc rs Q) : pz_W X M (d + 1) pc lv (.int y :: .int x :: st) h rc rs Q := by
  intro p l e R s m args below meth c Z H locs cells slots ls I hL
  have hf := I.1.2.2.2.2.2.2.2.1
  have hlo := I.1.2.2.2.2.2.2.2.2
  have hts := I.1.2.2.2.2.1
  have hcc := I.2.2.2.2.2.1
  have hss := I.2.2.2.2.2.2
  exact va_mmax I.1.1 I.1.2.1 (I.1.2.2.1.trans hL.1.symm) I.1.2.2.2.1 (hts _ hl) (hts _ hs1) (hts _ hi) (hts _ hcd) (by omega) (by omega) (by omega) (by omega) hdg (kk p l e R s m args below meth c Z H locs cells slots ls I hL)
end PZH
end
section
/-! CALLS in the program logic -/
def pz_MF (M : pz_M) (n : Nat) : Prop := Cond.code M.1 M.2.1 M.2.2.1 M.2.2.2 ∈ pz_U ∧ Cond.initialized M.1.cls ∈ pz_U ∧ (M.1.cls ≠ "java/lang/invoke/MethodHandle" ∧ M.1.cls ≠ "java/lang/invoke/VarHandle" ∧ (parseMethodDescriptor M.1.desc).map (fun d => d.parameters.length) = some n) ∧ M.2.2.1 ≤ 19
theorem pz_goodW {M : pz_M} (h : Cond.code M.1 M.2.1 M.2.2.1 M.2.2.2 ∈ pz_U) : GoodIn pz_U (pz_ws M) := fun w hw => by
  rcases List.mem_cons.mp hw with e | hw
  · rw [e]; exact ⟨h, pz_good _ h⟩
  · exact ⟨hw, pz_good _ hw⟩
theorem pz_blind {X : pz_X} {as : List Value} {h : pz_H} : FrameBlind (pz_Pc X as h) := fun a U g mk q => by
  obtain ⟨q0, qR, qK⟩ := q
  exact ⟨q0, qR, qK.same (U := U.calling g mk a) rfl⟩
theorem pz_go {X : pz_X} {p : Program} {l : Launch} {e : Env} {R : Room} {s : State} {m : MethodId} {args : Array Value} {below : List Frame} {meth : Method} {c : Code} {H : Heap} {locs : List Loc} {cells slots mc ms pc : Nat} {ls : Array Slot} {st0 rest : List Value} {Q' : Option Value → pz_H → Prop} {a : Array Value} {Z : State → Prop}
    (hr : va_Run p l e R s m args below meth c H locs cells slots mc ms (F0 m pc ls st0) rest (pz_Qc X Q' a) (pz_A X)) (hS : va_S (pz_A X) s.heap H locs)
    (kk : ∀ (r : Option Value) (h' : pz_H) (H1 : Heap) (locs1 : List Loc), Q' r h' → pz_R X h' H1 → va_S (pz_A X) s.heap H1 locs1 → W p l e R s m args below meth c H1 locs1 (cells + mc) (slots + ms) Z (F0 m (pc + 3) ls (r.toList ++ rest))) : W p l e R s m args below meth c H locs cells slots Z (F0 m pc ls st0) := by
  intro T hT X0
  obtain ⟨v, st₀, t, T', L, h0, X', hL, e1, e2, ⟨⟨r, h', hv, hq, hR⟩, hz, hk⟩, st⟩ := hr T hT X0
  cases hv
  rw [h0] at hz hk
  obtain ⟨t2, a1, b1⟩ := kk v h' T'.heap (locs ++ L) hq (by rw [e1]; exact hR)
    ⟨Nat.le_trans hS.1 (by rw [e1]; exact hz), fun q h1 h2 => by rw [e1, hk q (Nat.lt_of_lt_of_le h1 hS.1) h2]; exact hS.2.1 q h1 h2, fun q hq => by
      rcases List.mem_append.mp hq with h | h
      · exact hS.2.2 q h
      · exact hL q h⟩ T' rfl X'
  exact ⟨t2, st t2 a1, b1⟩
section PZC
variable {X : pz_X} {M M' : pz_M} {d pc rc rs mc ms idx n : Nat} {lv : List (Nat × Value)} {st rest As : List Value} {h : pz_H} {Q Q' : Option Value → pz_H → Prop}
theorem pz_pre {as : List Value} {s : State} {H : Heap} (hR : pz_R X h H) (hK : pz_K X s) : ∀ U : State, U.heap = H → s.WarmedH U.vm → pz_Pc X as h as.toArray U := fun U hU hW => ⟨rfl, by rw [hU]; exact hR, hK.warm hW⟩
theorem pz_callV {b ci N : Nat} {fs : List Value} {T : u_T} (hdg : decode M.2.1 pc = .ok (.invokevirtual idx, 3)) (hCall : pz_Call X M' d mc ms (.ref b :: As) h Q') (hst : st = As.reverse ++ .ref b :: rest) (hrest : (rest.map fun v => v.category).sum ≤ 8) (hMF : pz_MF M' As.length) (hl : Cond.methodLink M.1.cls idx M'.1 ∈ pz_U) (hG : h.1 b = some (.inr (ci, fs))) (hc : vwCl[ci]? = some (M'.1.cls, T, N)) (hin : Cond.instanceMethod M'.1 ∈ pz_U) (hse : Cond.selects M'.1.cls M'.1 M'.1 ∈ pz_U)
    (kk : ∀ (r : Option Value) (h' : pz_H), Q' r h' → pz_W X M (d + 1) (pc + 3) lv (r.toList ++ rest) h' rc rs Q) : pz_W X M (d + 1) pc lv st h (rc + mc) (rs + ms) Q := by
  intro p l e R s m args below meth c Z H locs cells slots ls I hL
  have hf := I.1.2.2.2.2.2.2.2.1
  have hlo := I.1.2.2.2.2.2.2.2.2
  have hts := I.1.2.2.2.2.1
  have hcc := I.2.2.2.2.2.1
  have hss := I.2.2.2.2.2.2
  have hK := I.1.2.2.2.2.2.1
  have hR := I.2.2.2.1
  obtain ⟨hcd, hini, hd, hL19⟩ := hMF
  have hroom : (pz_rm d mc ms).frames + 1 ≤ R.frames ∧ 8 + (M'.2.2.1 + 11) + (pz_rm d mc ms).locals ≤ R.locals := ⟨hf, by show 8 + (M'.2.2.1 + 11) + 38 * d ≤ _; omega⟩
  have cw := callB_of (R := R) (rm := pz_rm d mc ms) (mc := mc) (ms := ms) As.length hts (pz_goodW hcd) rfl rfl rfl (hts _ hini) (hts _ hl) hd hroom
  refine pz_go (va_runV (C := M'.1.cls) (As := As) (rest := rest) ⟨I.1.1, I.1.2.1, I.1.2.2.1, I.1.2.2.2.1, hts⟩ (hCall l) ⟨cw, hts _ hin, hts _ hse⟩ ⟨pz_blind, va_recv hK.1 (pz_one (hR.2.2 _ _ hG).2) hc (q0 := 0) rfl, pz_pre hR hK⟩ rfl rfl hL.1 hst (by show 2 * 0 + _ ≤ 8; omega) hdg ⟨by omega, by omega⟩) I.2.2.2.2.1 fun r h' H1 locs1 hq hR1 hS1 => ?_
  exact kk r h' hq p l e R s m args below meth c Z H1 locs1 _ _ ls (I.to hR1 hS1 (by omega) (by omega)) hL
theorem pz_callS  (hdg : decode M.2.1 pc = .ok (.invokestatic idx, 3)) (hCall : pz_Call X M' d mc ms As h Q') (hst : st = As.reverse ++ rest) (hrest : (rest.map fun v => v.category).sum ≤ 8) (hMF : pz_MF M' As.length) (hl : Cond.methodLink M.1.cls idx M'.1 ∈ pz_U) (hstt : Cond.static M'.1 ∈ pz_U)
    (kk : ∀ (r : Option Value) (h' : pz_H), Q' r h' → pz_W X M (d + 1) (pc + 3) lv (r.toList ++ rest) h' rc rs Q) : pz_W X M (d + 1) pc lv st h (rc + mc) (rs + ms) Q := by
  intro p l e R s m args below meth c Z H locs cells slots ls I hL
  have hf := I.1.2.2.2.2.2.2.2.1
  have hlo := I.1.2.2.2.2.2.2.2.2
  have hts := I.1.2.2.2.2.1
  have hcc := I.2.2.2.2.2.1
  have hss := I.2.2.2.2.2.2
  have hK := I.1.2.2.2.2.2.1
  have hR := I.2.2.2.1
  obtain ⟨hcd, hini, hd, hL19⟩ := hMF
  have hroom : (pz_rm d mc ms).frames + 1 ≤ R.frames ∧ 8 + (M'.2.2.1 + 11) + (pz_rm d mc ms).locals ≤ R.locals := ⟨hf, by show 8 + (M'.2.2.1 + 11) + 38 * d ≤ _; omega⟩
  have cw := callB_of (R := R) (rm := pz_rm d mc ms) (mc := mc) (ms := ms) As.length hts (pz_goodW hcd) rfl rfl rfl (hts _ hini) (hts _ hl) hd hroom
  refine pz_go (va_runS (As := As) (rest := rest) ⟨I.1.1, I.1.2.1, I.1.2.2.1, I.1.2.2.2.1, hts⟩ (hCall l) ⟨cw, hts _ hstt⟩ ⟨pz_blind, pz_pre hR hK⟩ rfl rfl hL.1 hst (by show 2 * 0 + _ ≤ 8; omega) hdg ⟨by omega, by omega⟩) I.2.2.2.2.1 fun r h' H1 locs1 hq hR1 hS1 => ?_
  exact kk r h' hq p l e R s m args below meth c Z H1 locs1 _ _ ls (I.to hR1 hS1 (by omega) (by omega)) hL
theorem pz_callSN  {host : String} (hdg : decode M.2.1 pc = .ok (.invokestatic idx, 3)) (hCall : pz_Call X M' d mc ms As h Q') (hst : st = As.reverse ++ rest) (hrest : (rest.map fun v => v.category).sum ≤ 8) (hMF : pz_MF M' As.length) (hl : (M.1.cls, idx, M'.1, host) ∈ pz_NM) (hstt : Cond.static M'.1 ∈ pz_U)
    (kk : ∀ (r : Option Value) (h' : pz_H), Q' r h' → pz_W X M (d + 1) (pc + 3) lv (r.toList ++ rest) h' rc rs Q) : pz_W X M (d + 1) pc lv st h (rc + mc) (rs + ms) Q := by
  intro p l e R s m args below meth c Z H locs cells slots ls I hL
  have hf := I.1.2.2.2.2.2.2.2.1
  have hlo := I.1.2.2.2.2.2.2.2.2
  have hts := I.1.2.2.2.2.1
  have hcc := I.2.2.2.2.2.1
  have hss := I.2.2.2.2.2.2
  have hK := I.1.2.2.2.2.2.1
  have hR := I.2.2.2.1
  obtain ⟨hcd, hini, hd, hL19⟩ := hMF
  have hroom : (pz_rm d mc ms).frames + 1 ≤ R.frames ∧ 8 + (M'.2.2.1 + 11) + (pz_rm d mc ms).locals ≤ R.locals := ⟨hf, by show 8 + (M'.2.2.1 + 11) + 38 * d ≤ _; omega⟩
  have cw := va_cnB (R := R) (rm := pz_rm d mc ms) (mc := mc) (ms := ms) As.length hts (pz_goodW hcd) rfl rfl rfl (hK.2.2.1 _ hl) (hts _ hini) hd hroom
  refine pz_go (va_runSN (As := As) (rest := rest) ⟨I.1.1, I.1.2.1, I.1.2.2.1, I.1.2.2.2.1, hts⟩ (hCall l) ⟨cw, hts _ hstt, trivial⟩ ⟨pz_blind, pz_pre hR hK⟩ rfl rfl hL.1 hst (by show 2 * 0 + _ ≤ 8; omega) hdg ⟨by omega, by omega⟩) I.2.2.2.2.1 fun r h' H1 locs1 hq hR1 hS1 => ?_
  exact kk r h' hq p l e R s m args below meth c Z H1 locs1 _ _ ls (I.to hR1 hS1 (by omega) (by omega)) hL
theorem pz_callI {b : Nat} (hdg : decode M.2.1 pc = .ok (.invokespecial idx, 3)) (hCall : pz_Call X M' d mc ms (.ref b :: As) h Q') (hst : st = As.reverse ++ .ref b :: rest) (hrest : (rest.map fun v => v.category).sum ≤ 8) (hMF : pz_MF M' As.length) (hl : Cond.methodLink M.1.cls idx M'.1 ∈ pz_U) (hret : M'.2.2.2 = none) (hname : M'.1.name = "<init>") (hin : Cond.instanceMethod M'.1 ∈ pz_U)
    (kk : ∀ (r : Option Value) (h' : pz_H), Q' r h' → pz_W X M (d + 1) (pc + 3) lv (r.toList ++ rest) h' rc rs Q) : pz_W X M (d + 1) pc lv st h (rc + mc) (rs + ms) Q := by
  intro p l e R s m args below meth c Z H locs cells slots ls I hL
  have hf := I.1.2.2.2.2.2.2.2.1
  have hlo := I.1.2.2.2.2.2.2.2.2
  have hts := I.1.2.2.2.2.1
  have hcc := I.2.2.2.2.2.1
  have hss := I.2.2.2.2.2.2
  have hK := I.1.2.2.2.2.2.1
  have hR := I.2.2.2.1
  obtain ⟨hcd, hini, hd, hL19⟩ := hMF
  have hroom : (pz_rm d mc ms).frames + 1 ≤ R.frames ∧ 8 + (M'.2.2.1 + 11) + (pz_rm d mc ms).locals ≤ R.locals := ⟨hf, by show 8 + (M'.2.2.1 + 11) + 38 * d ≤ _; omega⟩
  have cw := callB_of (R := R) (rm := pz_rm d mc ms) (mc := mc) (ms := ms) As.length hts (pz_goodW hcd) rfl rfl rfl (hts _ hini) (hts _ hl) hd hroom
  rw [hret] at cw
  refine pz_go (va_runI (As := As) (rest := rest) ⟨I.1.1, I.1.2.1, I.1.2.2.1, I.1.2.2.2.1, hts⟩ (hCall l) ⟨cw, hname, hts _ hin⟩ ⟨pz_blind, pz_pre hR hK⟩ rfl rfl hL.1 hst (by show 2 * 0 + _ ≤ 8; omega) hdg ⟨by omega, by omega⟩) I.2.2.2.2.1 fun r h' H1 locs1 hq hR1 hS1 => ?_
  exact kk r h' hq p l e R s m args below meth c Z H1 locs1 _ _ ls (I.to hR1 hS1 (by omega) (by omega)) hL
theorem pz_callIN {b : Nat} {host : String} (hdg : decode M.2.1 pc = .ok (.invokespecial idx, 3)) (hCall : pz_Call X M' d mc ms (.ref b :: As) h Q') (hst : st = As.reverse ++ .ref b :: rest) (hrest : (rest.map fun v => v.category).sum ≤ 8) (hMF : pz_MF M' As.length) (hl : (M.1.cls, idx, M'.1, host) ∈ pz_NM) (hret : M'.2.2.2 = none) (hname : M'.1.name = "<init>") (hin : Cond.instanceMethod M'.1 ∈ pz_U)
    (kk : ∀ (r : Option Value) (h' : pz_H), Q' r h' → pz_W X M (d + 1) (pc + 3) lv (r.toList ++ rest) h' rc rs Q) : pz_W X M (d + 1) pc lv st h (rc + mc) (rs + ms) Q := by
  intro p l e R s m args below meth c Z H locs cells slots ls I hL
  have hf := I.1.2.2.2.2.2.2.2.1
  have hlo := I.1.2.2.2.2.2.2.2.2
  have hts := I.1.2.2.2.2.1
  have hcc := I.2.2.2.2.2.1
  have hss := I.2.2.2.2.2.2
  have hK := I.1.2.2.2.2.2.1
  have hR := I.2.2.2.1
  obtain ⟨hcd, hini, hd, hL19⟩ := hMF
  have hroom : (pz_rm d mc ms).frames + 1 ≤ R.frames ∧ 8 + (M'.2.2.1 + 11) + (pz_rm d mc ms).locals ≤ R.locals := ⟨hf, by show 8 + (M'.2.2.1 + 11) + 38 * d ≤ _; omega⟩
  have cw := va_cnB (R := R) (rm := pz_rm d mc ms) (mc := mc) (ms := ms) As.length hts (pz_goodW hcd) rfl rfl rfl (hK.2.2.1 _ hl) (hts _ hini) hd hroom
  rw [hret] at cw
  refine pz_go (va_runIN (As := As) (rest := rest) ⟨I.1.1, I.1.2.1, I.1.2.2.1, I.1.2.2.2.1, hts⟩ (hCall l) ⟨cw, hname, hts _ hin⟩ ⟨pz_blind, pz_pre hR hK⟩ rfl rfl hL.1 hst (by show 2 * 0 + _ ≤ 8; omega) hdg ⟨by omega, by omega⟩) I.2.2.2.2.1 fun r h' H1 locs1 hq hR1 hS1 => ?_
  exact kk r h' hq p l e R s m args below meth c Z H1 locs1 _ _ ls (I.to hR1 hS1 (by omega) (by omega)) hL
/-- a method's contract, out of the walk of its body -/
theorem pz_call_of {as : List Value} (hy : plainName M.1.cls = true) (hlen : (lg_sl as).length ≤ M.2.2.1) (kk : pz_W X M d 0 (lv_args 0 as) [] h mc ms Q) : pz_Call X M d mc ms as h Q := by
  intro l
  refine Met.ofW (cc := M.2.1) (maxL := M.2.2.1) (ret := M.2.2.2) hy rfl ?_
  intro p e s m args below meth c s₁ B hml hv
  obtain ⟨rfl, hR, hK⟩ := hv
  have hx := B.exec
  have hb := B.bytes
  have hr := B.returns
  have hlocks := B.notSynchronized
  have hnm : meth.name = M.1.name := (name_of_methodNamed B.named B.method).1
  have hts := atoms_spec (ws := pz_ws M) B.pre
  have hl := lv_entry as (n := M.2.2.1) hlen
  rw [lg_entry_eq]
  refine kk p l e _ s m _ below meth c _ s.heap [] 0 0 _ ⟨⟨hx, hb, hml, findClass_of_methodNamed B.named, fun w hw => hts w (List.mem_cons_of_mem _ hw), hK, hnm, Nat.le_refl _, Nat.le_refl _⟩, by rw [hR.1]; exact hR.2.1, ?_, hR, va_S.rf, Nat.le_of_eq (Nat.zero_add _), Nat.le_of_eq (Nat.zero_add _)⟩ hl
  intro r h' H' locs' pc' ls' hq hR' hS' hrt
  match r, hrt with
  | none, hrt => exact W.vret hx hb (hr.trans hrt.1) (fun t ht hW => ⟨⟨none, h', rfl, hq, by rw [ht]; exact hR'⟩, hS'.F ht⟩) hS'.2.2 hrt.2
  | some (.int v), ⟨ty, h1, h2, h3⟩ => exact W.zret hx hb (hr.trans h1) h2 (fun t ht hW => ⟨⟨_, h', rfl, hq, by rw [ht]; exact hR'⟩, hS'.F ht⟩) hS'.2.2 h3
  | some (.long v), ⟨h1, h3⟩ => exact W.lret hx hb (hr.trans h1) (fun t ht hW => ⟨⟨_, h', rfl, hq, by rw [ht]; exact hR'⟩, hS'.F ht⟩) hS'.2.2 h3
  | some (.ref a), ⟨⟨rt, h1, h2⟩, h3⟩ => exact W.aret hx hb (hr.trans h1) h2 (Or.inr ⟨a, rfl⟩) (fun t ht hW => ⟨⟨_, h', rfl, hq, by rw [ht]; exact hR'⟩, hS'.F ht⟩) hS'.2.2 h3
  | some .null, ⟨⟨rt, h1, h2⟩, h3⟩ => exact W.aret hx hb (hr.trans h1) h2 (Or.inl rfl) (fun t ht hW => ⟨⟨_, h', rfl, hq, by rw [ht]; exact hR'⟩, hS'.F ht⟩) hS'.2.2 h3
theorem pz_ldc2 {index : Nat} {v : Int64} (hdg : decode M.2.1 pc = .ok (.ldc2_w index, 3)) (hw : Jvm.Cond.constantLong M.1.cls index v ∈ pz_U) (kk : pz_W X M d (pc + 3) lv (.long v :: st) h rc rs Q) : pz_W X M d pc lv st h rc rs Q := by
  intro p l e R s m args below meth c Z H locs cells slots ls I hL
  exact lv_ldc2 I.1.1 I.1.2.1 I.1.2.2.2.1 (I.1.2.2.2.2.1 _ hw) hdg (kk p l e R s m args below meth c Z H locs cells slots ls I hL)
theorem pz_ldcw {index : Nat} {v : Int32} (hdg : decode M.2.1 pc = .ok (.ldc_w index, 3)) (hw : Jvm.Cond.constant M.1.cls index v ∈ pz_U) (kk : pz_W X M d (pc + 3) lv (.int v :: st) h rc rs Q) : pz_W X M d pc lv st h rc rs Q := by
  intro p l e R s m args below meth c Z H locs cells slots ls I hL
  exact lv_ldcw I.1.1 I.1.2.1 I.1.2.2.2.1 (I.1.2.2.2.2.1 _ hw) hdg (kk p l e R s m args below meth c Z H locs cells slots ls I hL)
end PZC
end
section
/-! MORE ROWS, and the words of the pure picture of a method (pq_..): what a heap must hold for an instruction, and what comes next -/
section PZN
variable {X : pz_X} {M : pz_M} {d pc rc rs : Nat} {lv lv' : List (Nat × Value)} {st : List Value} {h : pz_H} {Q : Option Value → pz_H → Prop}
theorem pz_aload_nN {k : Fin 4} (hdg : decode M.2.1 pc = .ok (.aload_n k, 1)) (hl : pz_lk lv (k : Nat) = some .null) (kk : pz_W X M d (pc + 1) lv (.null :: st) h rc rs Q) : pz_W X M d pc lv st h rc rs Q := by
  intro p l e R s m args below meth c Z H locs cells slots ls I hL
  exact lv_aload_nN I.1.1 I.1.2.1 hdg rfl (hL.2.2 _ (pz_lk_mem hl)) (kk p l e R s m args below meth c Z H locs cells slots ls I hL)
theorem pz_aloadN {i : Nat} (hdg : decode M.2.1 pc = .ok (.aload i, 2)) (hl : pz_lk lv i = some .null) (kk : pz_W X M d (pc + 2) lv (.null :: st) h rc rs Q) : pz_W X M d pc lv st h rc rs Q := by
  intro p l e R s m args below meth c Z H locs cells slots ls I hL
  exact lv_aloadN I.1.1 I.1.2.1 hdg (hL.2.2 _ (pz_lk_mem hl)) (kk p l e R s m args below meth c Z H locs cells slots ls I hL)
theorem pz_astore_nN {k : Fin 4} {i : Nat} (hdg : decode M.2.1 pc = .ok (.astore_n k, 1)) (hi : (k : Nat) = i) (hn : i < M.2.2.1) (hl : pz_set1 i .null lv = lv') (kk : pz_W X M d (pc + 1) lv' st h rc rs Q) : pz_W X M d pc lv (.null :: st) h rc rs Q := by
  intro p l e R s m args below meth c Z H locs cells slots ls I hL
  exact lv_astore_nN I.1.1 I.1.2.1 hdg hi hL hn rfl (fun ls' hL' => kk p l e R s m args below meth c Z H locs cells slots ls' I (hL'.sub (fun q hq => pz_ins_mem (by rw [← hl] at hq; exact hq))))
theorem pz_astoreN {i : Nat} (hdg : decode M.2.1 pc = .ok (.astore i, 2)) (hn : i < M.2.2.1) (hl : pz_set1 i .null lv = lv') (kk : pz_W X M d (pc + 2) lv' st h rc rs Q) : pz_W X M d pc lv (.null :: st) h rc rs Q := by
  intro p l e R s m args below meth c Z H locs cells slots ls I hL
  exact lv_astoreN I.1.1 I.1.2.1 hdg hL hn rfl (fun ls' hL' => kk p l e R s m args below meth c Z H locs cells slots ls' I (hL'.sub (fun q hq => pz_ins_mem (by rw [← hl] at hq; exact hq))))
theorem pz_areturnQ {C : String} {r : Option Nat} (hdg : decode M.2.1 pc = .ok (.areturn, 1)) (ht : M.2.2.2 = some (.object C)) (hq : Q (some (va_rf r)) h) : pz_W X M d pc lv [va_rf r] h rc rs Q := by
  cases r with
  | none => exact pz_areturnN hdg ht hq
  | some a => exact pz_areturn hdg ht hq
end PZN
def pq_qI (Q : Int32 → pz_H → Prop) : Option Value → pz_H → Prop := fun r h => ∃ v, r = some (.int v) ∧ Q v h
def pq_qJ (Q : Int64 → pz_H → Prop) : Option Value → pz_H → Prop := fun r h => ∃ v, r = some (.long v) ∧ Q v h
def pq_qN (Q : Option Nat → pz_H → Prop) : Option Value → pz_H → Prop := fun r h => ∃ v, r = some (va_rf v) ∧ Q v h
def pq_qV (Q : pz_H → Prop) : Option Value → pz_H → Prop := fun r h => r = none ∧ Q h
def pq_br (c A B : Prop) : Prop := (c → A) ∧ (¬ c → B)
def pq_gI (h : pz_H) (a ci k : Nat) (K : Int32 → Prop) : Prop := ∃ (fs : List Value) (v : Int32), h.1 a = some (.inr (ci, fs)) ∧ fs[k]? = some (.int v) ∧ K v
def pq_gA (h : pz_H) (a ci k : Nat) (K : Nat → Prop) : Prop := ∃ (fs : List Value) (v : Nat), h.1 a = some (.inr (ci, fs)) ∧ fs[k]? = some (.ref v) ∧ K v
def pq_gN (h : pz_H) (a ci k : Nat) (K : Option Nat → Prop) : Prop := ∃ (fs : List Value) (v : Option Nat), h.1 a = some (.inr (ci, fs)) ∧ fs[k]? = some (va_rf v) ∧ K v
def pq_p (h : pz_H) (a ci k : Nat) (v : Value) (K : pz_H → Prop) : Prop := ∃ (fs : List Value), h.1 a = some (.inr (ci, fs)) ∧ k < fs.length ∧ K (pz_up h a (.inr (ci, fs.set k v)))
def pq_aI (h : pz_H) (a : Nat) (i : Int32) (K : Int32 → Prop) : Prop := ∃ (n : Nat) (f : Nat → Int32), h.1 a = some (.inl (0, n, .inl f)) ∧ vp_in i n ∧ K (f i.toNatClampNeg)
def pq_aZ (h : pz_H) (a : Nat) (i : Int32) (K : Int32 → Prop) : Prop := ∃ (n : Nat) (f : Nat → Int32), h.1 a = some (.inl (4, n, .inl f)) ∧ vp_in i n ∧ K (f i.toNatClampNeg)
def pq_aJ (h : pz_H) (a : Nat) (i : Int32) (K : Int64 → Prop) : Prop := ∃ (n : Nat) (f : Nat → Int64), h.1 a = some (.inl (1, n, .inr (.inl f))) ∧ vp_in i n ∧ K (f i.toNatClampNeg)
def pq_aN (h : pz_H) (a : Nat) (i : Int32) (K : Option Nat → Prop) : Prop := ∃ (n : Nat) (f : Nat → Option Nat), h.1 a = some (.inl (2, n, .inr (.inr (.inr (.inr f))))) ∧ vp_in i n ∧ K (f i.toNatClampNeg)
def pq_aA (h : pz_H) (a : Nat) (i : Int32) (K : Nat → Prop) : Prop := ∃ (n : Nat) (f : Nat → Option Nat) (b : Nat), h.1 a = some (.inl (3, n, .inr (.inr (.inr (.inr f))))) ∧ vp_in i n ∧ f i.toNatClampNeg = some b ∧ K b
def pq_sI (h : pz_H) (a : Nat) (i x : Int32) (K : pz_H → Prop) : Prop := ∃ (n : Nat) (f : Nat → Int32), h.1 a = some (.inl (0, n, .inl f)) ∧ vp_in i n ∧ K (pz_up h a (.inl (0, n, .inl (upd f i.toNatClampNeg x))))
def pq_sZ (h : pz_H) (a : Nat) (i x : Int32) (K : pz_H → Prop) : Prop := ∃ (n : Nat) (f : Nat → Int32), h.1 a = some (.inl (4, n, .inl f)) ∧ vp_in i n ∧ K (pz_up h a (.inl (4, n, .inl (upd f i.toNatClampNeg (vp_nar .boolean x)))))
def pq_sJ (h : pz_H) (a : Nat) (i : Int32) (x : Int64) (K : pz_H → Prop) : Prop := ∃ (n : Nat) (f : Nat → Int64), h.1 a = some (.inl (1, n, .inr (.inl f))) ∧ vp_in i n ∧ K (pz_up h a (.inl (1, n, .inr (.inl (vp_updL f i.toNatClampNeg x)))))
def pq_sA (h : pz_H) (a : Nat) (i : Int32) (v : Nat) (K : pz_H → Prop) : Prop := ∃ (n : Nat) (f : Nat → Option Nat) (vs : List Value), h.1 a = some (.inl (2, n, .inr (.inr (.inr (.inr f))))) ∧ h.1 v = some (.inr (1, vs)) ∧ vp_in i n ∧ K (pz_up h a (.inl (2, n, .inr (.inr (.inr (.inr (va_up f i.toNatClampNeg (some v))))))))
def pq_len (h : pz_H) (a : Nat) (K : Int32 → Prop) : Prop := ∃ (t : Nat) (x : vp_A) (ty : FieldType), h.1 a = some (.inl (t, x)) ∧ pz_ty[t]? = some ty ∧ K (Int32.ofNat x.1)
def pq_n (h : pz_H) (c : pz_E) (K : Nat → pz_H → Prop) : Prop := (∀ (q : Nat) (c : pz_E), h.1 q = some c → q < h.2) → K h.2 (pz_nw h c)
def pq_ne (y : Int32) (K : Prop) : Prop := ¬ y = 0 ∧ K
def pq_neJ (y : Int64) (K : Prop) : Prop := ¬ y = 0 ∧ K
def pq_z (v : Int32) (K : Prop) : Prop := narrow .boolean (.int v) = .int v ∧ K
def pq_o (h : pz_H) (a ci : Nat) (K : Prop) : Prop := ∃ (fs : List Value), h.1 a = some (.inr (ci, fs)) ∧ K
def pq_ex (P : Nat → Prop) : Prop := ∃ n, P n
def pq_sw (r : Option Nat) (A : Prop) (B : Nat → Prop) : Prop := match r with
  | none => A
  | some a => B a
end
section
/-! THE LINKS of the classes: fields, methods, constants, by their places among the words -/
theorem pi_X0 : ∀ w ∈ u_ws RX0 TX0 3, w ∈ pz_U := fun w hw => List.mem_filter.mpr ⟨(show ∀ w ∈ u_ws RX0 TX0 3, w ∈ lw_tbl by decide +kernel) w hw, (show ∀ w ∈ u_ws RX0 TX0 3, goodWord w = true by decide +kernel) w hw⟩
theorem pi_X1 : ∀ w ∈ u_ws RX1 TX1 18, w ∈ pz_U := fun w hw => List.mem_filter.mpr ⟨(show ∀ w ∈ u_ws RX1 TX1 18, w ∈ lw_tbl by decide +kernel) w hw, (show ∀ w ∈ u_ws RX1 TX1 18, goodWord w = true by decide +kernel) w hw⟩
theorem pi_X2 : ∀ w ∈ u_ws RX2 TX2 10, w ∈ pz_U := fun w hw => List.mem_filter.mpr ⟨(show ∀ w ∈ u_ws RX2 TX2 10, w ∈ lw_tbl by decide +kernel) w hw, (show ∀ w ∈ u_ws RX2 TX2 10, goodWord w = true by decide +kernel) w hw⟩
theorem pi_X3 : ∀ w ∈ u_ws RX3 TX3 3, w ∈ pz_U := fun w hw => List.mem_filter.mpr ⟨(show ∀ w ∈ u_ws RX3 TX3 3, w ∈ lw_tbl by decide +kernel) w hw, (show ∀ w ∈ u_ws RX3 TX3 3, goodWord w = true by decide +kernel) w hw⟩
theorem pi_X4 : ∀ w ∈ u_ws RX4 TX4 15, w ∈ pz_U := fun w hw => List.mem_filter.mpr ⟨(show ∀ w ∈ u_ws RX4 TX4 15, w ∈ lw_tbl by decide +kernel) w hw, (show ∀ w ∈ u_ws RX4 TX4 15, goodWord w = true by decide +kernel) w hw⟩
theorem pi_X5 : ∀ w ∈ u_ws RX5 TX5 29, w ∈ pz_U := fun w hw => List.mem_filter.mpr ⟨(show ∀ w ∈ u_ws RX5 TX5 29, w ∈ lw_tbl by decide +kernel) w hw, (show ∀ w ∈ u_ws RX5 TX5 29, goodWord w = true by decide +kernel) w hw⟩
theorem fl_X2_9 : pz_FL RX2 9 2 0 := ⟨RX2, TX2, 10, rfl, by decide, pi_X2, pz_in 83 (by decide +kernel) rfl⟩
theorem fp_X2_9 : pz_FP RX2 9 2 0 (.object "CreaseFlat$Paper") false := ⟨RX2, TX2, 10, tyX2, rfl, by decide, pi_X2, pz_in 83 (by decide +kernel) rfl, tyX2_ok, nmX2, rfl, by decide +kernel, fun h => by cases h⟩
theorem fl_X2_15 : pz_FL RX2 15 2 1 := ⟨RX2, TX2, 10, rfl, by decide, pi_X2, pz_in 84 (by decide +kernel) rfl⟩
theorem fp_X2_15 : pz_FP RX2 15 2 1 (.array .int) true := ⟨RX2, TX2, 10, tyX2, rfl, by decide, pi_X2, pz_in 84 (by decide +kernel) rfl, tyX2_ok, nmX2, rfl, by decide +kernel, fun _ => rfl⟩
theorem fl_X4_135 : pz_FL RX4 135 2 1 := ⟨RX2, TX2, 10, rfl, by decide, pi_X2, pz_in 85 (by decide +kernel) rfl⟩
theorem fl_X2_19 : pz_FL RX2 19 2 2 := ⟨RX2, TX2, 10, rfl, by decide, pi_X2, pz_in 86 (by decide +kernel) rfl⟩
theorem fp_X2_19 : pz_FP RX2 19 2 2 (.array .int) true := ⟨RX2, TX2, 10, tyX2, rfl, by decide, pi_X2, pz_in 86 (by decide +kernel) rfl, tyX2_ok, nmX2, rfl, by decide +kernel, fun _ => rfl⟩
theorem fl_X4_144 : pz_FL RX4 144 2 2 := ⟨RX2, TX2, 10, rfl, by decide, pi_X2, pz_in 87 (by decide +kernel) rfl⟩
theorem fl_X2_22 : pz_FL RX2 22 2 3 := ⟨RX2, TX2, 10, rfl, by decide, pi_X2, pz_in 88 (by decide +kernel) rfl⟩
theorem fp_X2_22 : pz_FP RX2 22 2 3 .int false := ⟨RX2, TX2, 10, tyX2, rfl, by decide, pi_X2, pz_in 88 (by decide +kernel) rfl, tyX2_ok, nmX2, rfl, by decide +kernel, fun h => by cases h⟩
theorem fl_X2_26 : pz_FL RX2 26 2 4 := ⟨RX2, TX2, 10, rfl, by decide, pi_X2, pz_in 89 (by decide +kernel) rfl⟩
theorem fp_X2_26 : pz_FP RX2 26 2 4 .int false := ⟨RX2, TX2, 10, tyX2, rfl, by decide, pi_X2, pz_in 89 (by decide +kernel) rfl, tyX2_ok, nmX2, rfl, by decide +kernel, fun h => by cases h⟩
theorem fl_X2_29 : pz_FL RX2 29 2 5 := ⟨RX2, TX2, 10, rfl, by decide, pi_X2, pz_in 90 (by decide +kernel) rfl⟩
theorem fp_X2_29 : pz_FP RX2 29 2 5 (.array .int) true := ⟨RX2, TX2, 10, tyX2, rfl, by decide, pi_X2, pz_in 90 (by decide +kernel) rfl, tyX2_ok, nmX2, rfl, by decide +kernel, fun _ => rfl⟩
theorem fl_X2_32 : pz_FL RX2 32 2 6 := ⟨RX2, TX2, 10, rfl, by decide, pi_X2, pz_in 91 (by decide +kernel) rfl⟩
theorem fp_X2_32 : pz_FP RX2 32 2 6 .int false := ⟨RX2, TX2, 10, tyX2, rfl, by decide, pi_X2, pz_in 91 (by decide +kernel) rfl, tyX2_ok, nmX2, rfl, by decide +kernel, fun h => by cases h⟩
theorem fl_X2_35 : pz_FL RX2 35 2 7 := ⟨RX2, TX2, 10, rfl, by decide, pi_X2, pz_in 92 (by decide +kernel) rfl⟩
theorem fp_X2_35 : pz_FP RX2 35 2 7 (.array .int) true := ⟨RX2, TX2, 10, tyX2, rfl, by decide, pi_X2, pz_in 92 (by decide +kernel) rfl, tyX2_ok, nmX2, rfl, by decide +kernel, fun _ => rfl⟩
theorem fl_X2_38 : pz_FL RX2 38 2 8 := ⟨RX2, TX2, 10, rfl, by decide, pi_X2, pz_in 93 (by decide +kernel) rfl⟩
theorem fp_X2_38 : pz_FP RX2 38 2 8 (.array .int) true := ⟨RX2, TX2, 10, tyX2, rfl, by decide, pi_X2, pz_in 93 (by decide +kernel) rfl, tyX2_ok, nmX2, rfl, by decide +kernel, fun _ => rfl⟩
theorem fl_X2_41 : pz_FL RX2 41 2 9 := ⟨RX2, TX2, 10, rfl, by decide, pi_X2, pz_in 94 (by decide +kernel) rfl⟩
theorem fp_X2_41 : pz_FP RX2 41 2 9 .boolean false := ⟨RX2, TX2, 10, tyX2, rfl, by decide, pi_X2, pz_in 94 (by decide +kernel) rfl, tyX2_ok, nmX2, rfl, by decide +kernel, fun h => by cases h⟩
theorem fl_X0_9 : pz_FL RX0 9 0 0 := ⟨RX0, TX0, 3, rfl, by decide, pi_X0, pz_in 125 (by decide +kernel) rfl⟩
theorem fp_X0_9 : pz_FP RX0 9 0 0 .int false := ⟨RX0, TX0, 3, tyX0, rfl, by decide, pi_X0, pz_in 125 (by decide +kernel) rfl, tyX0_ok, nmX0, rfl, by decide +kernel, fun h => by cases h⟩
theorem fl_X0_17 : pz_FL RX0 17 0 1 := ⟨RX0, TX0, 3, rfl, by decide, pi_X0, pz_in 126 (by decide +kernel) rfl⟩
theorem fp_X0_17 : pz_FP RX0 17 0 1 (.array (.array .int)) true := ⟨RX0, TX0, 3, tyX0, rfl, by decide, pi_X0, pz_in 126 (by decide +kernel) rfl, tyX0_ok, nmX0, rfl, by decide +kernel, fun _ => rfl⟩
theorem fl_X3_55 : pz_FL RX3 55 0 1 := ⟨RX0, TX0, 3, rfl, by decide, pi_X0, pz_in 127 (by decide +kernel) rfl⟩
theorem fl_X4_237 : pz_FL RX4 237 0 1 := ⟨RX0, TX0, 3, rfl, by decide, pi_X0, pz_in 128 (by decide +kernel) rfl⟩
theorem fl_X0_20 : pz_FL RX0 20 0 2 := ⟨RX0, TX0, 3, rfl, by decide, pi_X0, pz_in 129 (by decide +kernel) rfl⟩
theorem fp_X0_20 : pz_FP RX0 20 0 2 (.array (.array .int)) true := ⟨RX0, TX0, 3, tyX0, rfl, by decide, pi_X0, pz_in 129 (by decide +kernel) rfl, tyX0_ok, nmX0, rfl, by decide +kernel, fun _ => rfl⟩
theorem fl_X4_243 : pz_FL RX4 243 0 2 := ⟨RX0, TX0, 3, rfl, by decide, pi_X0, pz_in 130 (by decide +kernel) rfl⟩
theorem fl_X3_9 : pz_FL RX3 9 3 0 := ⟨RX3, TX3, 3, rfl, by decide, pi_X3, pz_in 145 (by decide +kernel) rfl⟩
theorem fp_X3_9 : pz_FP RX3 9 3 0 (.array .int) true := ⟨RX3, TX3, 3, tyX3, rfl, by decide, pi_X3, pz_in 145 (by decide +kernel) rfl, tyX3_ok, nmX3, rfl, by decide +kernel, fun _ => rfl⟩
theorem fl_X4_213 : pz_FL RX4 213 3 0 := ⟨RX3, TX3, 3, rfl, by decide, pi_X3, pz_in 146 (by decide +kernel) rfl⟩
theorem fl_X3_15 : pz_FL RX3 15 3 1 := ⟨RX3, TX3, 3, rfl, by decide, pi_X3, pz_in 147 (by decide +kernel) rfl⟩
theorem fp_X3_15 : pz_FP RX3 15 3 1 (.array .int) true := ⟨RX3, TX3, 3, tyX3, rfl, by decide, pi_X3, pz_in 147 (by decide +kernel) rfl, tyX3_ok, nmX3, rfl, by decide +kernel, fun _ => rfl⟩
theorem fl_X3_18 : pz_FL RX3 18 3 2 := ⟨RX3, TX3, 3, rfl, by decide, pi_X3, pz_in 148 (by decide +kernel) rfl⟩
theorem fp_X3_18 : pz_FP RX3 18 3 2 (.array .int) true := ⟨RX3, TX3, 3, tyX3, rfl, by decide, pi_X3, pz_in 148 (by decide +kernel) rfl, tyX3_ok, nmX3, rfl, by decide +kernel, fun _ => rfl⟩
theorem fl_X4_11 : pz_FL RX4 11 4 0 := ⟨RX4, TX4, 15, rfl, by decide, pi_X4, pz_in 156 (by decide +kernel) rfl⟩
theorem fp_X4_11 : pz_FP RX4 11 4 0 (.array (.object "CreaseFlat$Paper")) true := ⟨RX4, TX4, 15, tyX4, rfl, by decide, pi_X4, pz_in 156 (by decide +kernel) rfl, tyX4_ok, nmX4, rfl, by decide +kernel, fun _ => rfl⟩
theorem fl_X4_15 : pz_FL RX4 15 4 1 := ⟨RX4, TX4, 15, rfl, by decide, pi_X4, pz_in 157 (by decide +kernel) rfl⟩
theorem fp_X4_15 : pz_FP RX4 15 4 1 .int false := ⟨RX4, TX4, 15, tyX4, rfl, by decide, pi_X4, pz_in 157 (by decide +kernel) rfl, tyX4_ok, nmX4, rfl, by decide +kernel, fun h => by cases h⟩
theorem fl_X4_22 : pz_FL RX4 22 4 2 := ⟨RX4, TX4, 15, rfl, by decide, pi_X4, pz_in 158 (by decide +kernel) rfl⟩
theorem fp_X4_22 : pz_FP RX4 22 4 2 (.object "CreaseFlat$Pile") true := ⟨RX4, TX4, 15, tyX4, rfl, by decide, pi_X4, pz_in 158 (by decide +kernel) rfl, tyX4_ok, nmX4, rfl, by decide +kernel, fun _ => rfl⟩
theorem fl_X4_26 : pz_FL RX4 26 4 3 := ⟨RX4, TX4, 15, rfl, by decide, pi_X4, pz_in 159 (by decide +kernel) rfl⟩
theorem fp_X4_26 : pz_FP RX4 26 4 3 (.object "CreaseFlat$Pile") true := ⟨RX4, TX4, 15, tyX4, rfl, by decide, pi_X4, pz_in 159 (by decide +kernel) rfl, tyX4_ok, nmX4, rfl, by decide +kernel, fun _ => rfl⟩
theorem fl_X4_29 : pz_FL RX4 29 4 4 := ⟨RX4, TX4, 15, rfl, by decide, pi_X4, pz_in 160 (by decide +kernel) rfl⟩
theorem fp_X4_29 : pz_FP RX4 29 4 4 (.object "CreaseFlat$Paper") false := ⟨RX4, TX4, 15, tyX4, rfl, by decide, pi_X4, pz_in 160 (by decide +kernel) rfl, tyX4_ok, nmX4, rfl, by decide +kernel, fun h => by cases h⟩
theorem fl_X4_33 : pz_FL RX4 33 4 5 := ⟨RX4, TX4, 15, rfl, by decide, pi_X4, pz_in 161 (by decide +kernel) rfl⟩
theorem fp_X4_33 : pz_FP RX4 33 4 5 (.array .int) true := ⟨RX4, TX4, 15, tyX4, rfl, by decide, pi_X4, pz_in 161 (by decide +kernel) rfl, tyX4_ok, nmX4, rfl, by decide +kernel, fun _ => rfl⟩
theorem fl_X4_37 : pz_FL RX4 37 4 6 := ⟨RX4, TX4, 15, rfl, by decide, pi_X4, pz_in 162 (by decide +kernel) rfl⟩
theorem fp_X4_37 : pz_FP RX4 37 4 6 (.array .int) true := ⟨RX4, TX4, 15, tyX4, rfl, by decide, pi_X4, pz_in 162 (by decide +kernel) rfl, tyX4_ok, nmX4, rfl, by decide +kernel, fun _ => rfl⟩
theorem fl_X4_40 : pz_FL RX4 40 4 7 := ⟨RX4, TX4, 15, rfl, by decide, pi_X4, pz_in 163 (by decide +kernel) rfl⟩
theorem fp_X4_40 : pz_FP RX4 40 4 7 (.array .int) true := ⟨RX4, TX4, 15, tyX4, rfl, by decide, pi_X4, pz_in 163 (by decide +kernel) rfl, tyX4_ok, nmX4, rfl, by decide +kernel, fun _ => rfl⟩
theorem fl_X4_43 : pz_FL RX4 43 4 8 := ⟨RX4, TX4, 15, rfl, by decide, pi_X4, pz_in 164 (by decide +kernel) rfl⟩
theorem fp_X4_43 : pz_FP RX4 43 4 8 (.array .long) true := ⟨RX4, TX4, 15, tyX4, rfl, by decide, pi_X4, pz_in 164 (by decide +kernel) rfl, tyX4_ok, nmX4, rfl, by decide +kernel, fun _ => rfl⟩
theorem fl_X4_47 : pz_FL RX4 47 4 9 := ⟨RX4, TX4, 15, rfl, by decide, pi_X4, pz_in 165 (by decide +kernel) rfl⟩
theorem fp_X4_47 : pz_FP RX4 47 4 9 (.array .int) true := ⟨RX4, TX4, 15, tyX4, rfl, by decide, pi_X4, pz_in 165 (by decide +kernel) rfl, tyX4_ok, nmX4, rfl, by decide +kernel, fun _ => rfl⟩
theorem fl_X4_50 : pz_FL RX4 50 4 10 := ⟨RX4, TX4, 15, rfl, by decide, pi_X4, pz_in 166 (by decide +kernel) rfl⟩
theorem fp_X4_50 : pz_FP RX4 50 4 10 .int false := ⟨RX4, TX4, 15, tyX4, rfl, by decide, pi_X4, pz_in 166 (by decide +kernel) rfl, tyX4_ok, nmX4, rfl, by decide +kernel, fun h => by cases h⟩
theorem fl_X4_56 : pz_FL RX4 56 4 11 := ⟨RX4, TX4, 15, rfl, by decide, pi_X4, pz_in 167 (by decide +kernel) rfl⟩
theorem fp_X4_56 : pz_FP RX4 56 4 11 (.object "CreaseFlat$Lay") true := ⟨RX4, TX4, 15, tyX4, rfl, by decide, pi_X4, pz_in 167 (by decide +kernel) rfl, tyX4_ok, nmX4, rfl, by decide +kernel, fun _ => rfl⟩
theorem fl_X4_63 : pz_FL RX4 63 4 12 := ⟨RX4, TX4, 15, rfl, by decide, pi_X4, pz_in 168 (by decide +kernel) rfl⟩
theorem fp_X4_63 : pz_FP RX4 63 4 12 (.object "CreaseFlat$Ways") true := ⟨RX4, TX4, 15, tyX4, rfl, by decide, pi_X4, pz_in 168 (by decide +kernel) rfl, tyX4_ok, nmX4, rfl, by decide +kernel, fun _ => rfl⟩
theorem fl_X4_67 : pz_FL RX4 67 4 13 := ⟨RX4, TX4, 15, rfl, by decide, pi_X4, pz_in 169 (by decide +kernel) rfl⟩
theorem fp_X4_67 : pz_FP RX4 67 4 13 (.array .int) true := ⟨RX4, TX4, 15, tyX4, rfl, by decide, pi_X4, pz_in 169 (by decide +kernel) rfl, tyX4_ok, nmX4, rfl, by decide +kernel, fun _ => rfl⟩
theorem fl_X4_70 : pz_FL RX4 70 4 14 := ⟨RX4, TX4, 15, rfl, by decide, pi_X4, pz_in 170 (by decide +kernel) rfl⟩
theorem fp_X4_70 : pz_FP RX4 70 4 14 .int false := ⟨RX4, TX4, 15, tyX4, rfl, by decide, pi_X4, pz_in 170 (by decide +kernel) rfl, tyX4_ok, nmX4, rfl, by decide +kernel, fun h => by cases h⟩
theorem fl_X1_55 : pz_FL RX1 55 1 0 := ⟨RX1, TX1, 18, rfl, by decide, pi_X1, pz_in 263 (by decide +kernel) rfl⟩
theorem fp_X1_55 : pz_FP RX1 55 1 0 .int true := ⟨RX1, TX1, 18, tyX1, rfl, by decide, pi_X1, pz_in 263 (by decide +kernel) rfl, tyX1_ok, nmX1, rfl, by decide +kernel, fun _ => rfl⟩
theorem fl_X4_85 : pz_FL RX4 85 1 0 := ⟨RX1, TX1, 18, rfl, by decide, pi_X1, pz_in 264 (by decide +kernel) rfl⟩
theorem fl_X1_58 : pz_FL RX1 58 1 1 := ⟨RX1, TX1, 18, rfl, by decide, pi_X1, pz_in 265 (by decide +kernel) rfl⟩
theorem fp_X1_58 : pz_FP RX1 58 1 1 .int true := ⟨RX1, TX1, 18, tyX1, rfl, by decide, pi_X1, pz_in 265 (by decide +kernel) rfl, tyX1_ok, nmX1, rfl, by decide +kernel, fun _ => rfl⟩
theorem fl_X0_44 : pz_FL RX0 44 1 1 := ⟨RX1, TX1, 18, rfl, by decide, pi_X1, pz_in 266 (by decide +kernel) rfl⟩
theorem fl_X1_61 : pz_FL RX1 61 1 2 := ⟨RX1, TX1, 18, rfl, by decide, pi_X1, pz_in 267 (by decide +kernel) rfl⟩
theorem fp_X1_61 : pz_FP RX1 61 1 2 .int true := ⟨RX1, TX1, 18, tyX1, rfl, by decide, pi_X1, pz_in 267 (by decide +kernel) rfl, tyX1_ok, nmX1, rfl, by decide +kernel, fun _ => rfl⟩
theorem fl_X0_41 : pz_FL RX0 41 1 2 := ⟨RX1, TX1, 18, rfl, by decide, pi_X1, pz_in 268 (by decide +kernel) rfl⟩
theorem fl_X1_64 : pz_FL RX1 64 1 3 := ⟨RX1, TX1, 18, rfl, by decide, pi_X1, pz_in 269 (by decide +kernel) rfl⟩
theorem fp_X1_64 : pz_FP RX1 64 1 3 .int true := ⟨RX1, TX1, 18, tyX1, rfl, by decide, pi_X1, pz_in 269 (by decide +kernel) rfl, tyX1_ok, nmX1, rfl, by decide +kernel, fun _ => rfl⟩
theorem fl_X2_110 : pz_FL RX2 110 1 3 := ⟨RX1, TX1, 18, rfl, by decide, pi_X1, pz_in 270 (by decide +kernel) rfl⟩
theorem fl_X4_100 : pz_FL RX4 100 1 3 := ⟨RX1, TX1, 18, rfl, by decide, pi_X1, pz_in 271 (by decide +kernel) rfl⟩
theorem fl_X1_9 : pz_FL RX1 9 1 4 := ⟨RX1, TX1, 18, rfl, by decide, pi_X1, pz_in 272 (by decide +kernel) rfl⟩
theorem fp_X1_9 : pz_FP RX1 9 1 4 .int false := ⟨RX1, TX1, 18, tyX1, rfl, by decide, pi_X1, pz_in 272 (by decide +kernel) rfl, tyX1_ok, nmX1, rfl, by decide +kernel, fun h => by cases h⟩
theorem fl_X2_55 : pz_FL RX2 55 1 4 := ⟨RX1, TX1, 18, rfl, by decide, pi_X1, pz_in 273 (by decide +kernel) rfl⟩
theorem fl_X4_103 : pz_FL RX4 103 1 4 := ⟨RX1, TX1, 18, rfl, by decide, pi_X1, pz_in 274 (by decide +kernel) rfl⟩
theorem fl_X0_68 : pz_FL RX0 68 1 4 := ⟨RX1, TX1, 18, rfl, by decide, pi_X1, pz_in 275 (by decide +kernel) rfl⟩
theorem fl_X1_15 : pz_FL RX1 15 1 5 := ⟨RX1, TX1, 18, rfl, by decide, pi_X1, pz_in 276 (by decide +kernel) rfl⟩
theorem fp_X1_15 : pz_FP RX1 15 1 5 (.array .int) true := ⟨RX1, TX1, 18, tyX1, rfl, by decide, pi_X1, pz_in 276 (by decide +kernel) rfl, tyX1_ok, nmX1, rfl, by decide +kernel, fun _ => rfl⟩
theorem fl_X0_50 : pz_FL RX0 50 1 5 := ⟨RX1, TX1, 18, rfl, by decide, pi_X1, pz_in 277 (by decide +kernel) rfl⟩
theorem fl_X4_249 : pz_FL RX4 249 1 5 := ⟨RX1, TX1, 18, rfl, by decide, pi_X1, pz_in 278 (by decide +kernel) rfl⟩
theorem fl_X1_19 : pz_FL RX1 19 1 6 := ⟨RX1, TX1, 18, rfl, by decide, pi_X1, pz_in 279 (by decide +kernel) rfl⟩
theorem fp_X1_19 : pz_FP RX1 19 1 6 (.array .int) true := ⟨RX1, TX1, 18, tyX1, rfl, by decide, pi_X1, pz_in 279 (by decide +kernel) rfl, tyX1_ok, nmX1, rfl, by decide +kernel, fun _ => rfl⟩
theorem fl_X0_47 : pz_FL RX0 47 1 6 := ⟨RX1, TX1, 18, rfl, by decide, pi_X1, pz_in 280 (by decide +kernel) rfl⟩
theorem fl_X4_240 : pz_FL RX4 240 1 6 := ⟨RX1, TX1, 18, rfl, by decide, pi_X1, pz_in 281 (by decide +kernel) rfl⟩
theorem fl_X1_22 : pz_FL RX1 22 1 7 := ⟨RX1, TX1, 18, rfl, by decide, pi_X1, pz_in 282 (by decide +kernel) rfl⟩
theorem fp_X1_22 : pz_FP RX1 22 1 7 (.array .int) true := ⟨RX1, TX1, 18, tyX1, rfl, by decide, pi_X1, pz_in 282 (by decide +kernel) rfl, tyX1_ok, nmX1, rfl, by decide +kernel, fun _ => rfl⟩
theorem fl_X0_35 : pz_FL RX0 35 1 7 := ⟨RX1, TX1, 18, rfl, by decide, pi_X1, pz_in 283 (by decide +kernel) rfl⟩
theorem fl_X4_88 : pz_FL RX4 88 1 7 := ⟨RX1, TX1, 18, rfl, by decide, pi_X1, pz_in 284 (by decide +kernel) rfl⟩
theorem fl_X1_25 : pz_FL RX1 25 1 8 := ⟨RX1, TX1, 18, rfl, by decide, pi_X1, pz_in 285 (by decide +kernel) rfl⟩
theorem fp_X1_25 : pz_FP RX1 25 1 8 (.array .int) true := ⟨RX1, TX1, 18, tyX1, rfl, by decide, pi_X1, pz_in 285 (by decide +kernel) rfl, tyX1_ok, nmX1, rfl, by decide +kernel, fun _ => rfl⟩
theorem fl_X4_115 : pz_FL RX4 115 1 8 := ⟨RX1, TX1, 18, rfl, by decide, pi_X1, pz_in 286 (by decide +kernel) rfl⟩
theorem fl_X1_28 : pz_FL RX1 28 1 9 := ⟨RX1, TX1, 18, rfl, by decide, pi_X1, pz_in 287 (by decide +kernel) rfl⟩
theorem fp_X1_28 : pz_FP RX1 28 1 9 (.array .int) true := ⟨RX1, TX1, 18, tyX1, rfl, by decide, pi_X1, pz_in 287 (by decide +kernel) rfl, tyX1_ok, nmX1, rfl, by decide +kernel, fun _ => rfl⟩
theorem fl_X2_75 : pz_FL RX2 75 1 9 := ⟨RX1, TX1, 18, rfl, by decide, pi_X1, pz_in 288 (by decide +kernel) rfl⟩
theorem fl_X4_118 : pz_FL RX4 118 1 9 := ⟨RX1, TX1, 18, rfl, by decide, pi_X1, pz_in 289 (by decide +kernel) rfl⟩
theorem fl_X0_77 : pz_FL RX0 77 1 9 := ⟨RX1, TX1, 18, rfl, by decide, pi_X1, pz_in 290 (by decide +kernel) rfl⟩
theorem fl_X1_31 : pz_FL RX1 31 1 10 := ⟨RX1, TX1, 18, rfl, by decide, pi_X1, pz_in 291 (by decide +kernel) rfl⟩
theorem fp_X1_31 : pz_FP RX1 31 1 10 (.array .int) true := ⟨RX1, TX1, 18, tyX1, rfl, by decide, pi_X1, pz_in 291 (by decide +kernel) rfl, tyX1_ok, nmX1, rfl, by decide +kernel, fun _ => rfl⟩
theorem fl_X2_78 : pz_FL RX2 78 1 10 := ⟨RX1, TX1, 18, rfl, by decide, pi_X1, pz_in 292 (by decide +kernel) rfl⟩
theorem fl_X4_121 : pz_FL RX4 121 1 10 := ⟨RX1, TX1, 18, rfl, by decide, pi_X1, pz_in 293 (by decide +kernel) rfl⟩
theorem fl_X1_34 : pz_FL RX1 34 1 11 := ⟨RX1, TX1, 18, rfl, by decide, pi_X1, pz_in 294 (by decide +kernel) rfl⟩
theorem fp_X1_34 : pz_FP RX1 34 1 11 (.array .int) true := ⟨RX1, TX1, 18, tyX1, rfl, by decide, pi_X1, pz_in 294 (by decide +kernel) rfl, tyX1_ok, nmX1, rfl, by decide +kernel, fun _ => rfl⟩
theorem fl_X0_71 : pz_FL RX0 71 1 11 := ⟨RX1, TX1, 18, rfl, by decide, pi_X1, pz_in 295 (by decide +kernel) rfl⟩
theorem fl_X1_37 : pz_FL RX1 37 1 12 := ⟨RX1, TX1, 18, rfl, by decide, pi_X1, pz_in 296 (by decide +kernel) rfl⟩
theorem fp_X1_37 : pz_FP RX1 37 1 12 (.array .int) true := ⟨RX1, TX1, 18, tyX1, rfl, by decide, pi_X1, pz_in 296 (by decide +kernel) rfl, tyX1_ok, nmX1, rfl, by decide +kernel, fun _ => rfl⟩
theorem fl_X2_64 : pz_FL RX2 64 1 12 := ⟨RX1, TX1, 18, rfl, by decide, pi_X1, pz_in 297 (by decide +kernel) rfl⟩
theorem fl_X4_97 : pz_FL RX4 97 1 12 := ⟨RX1, TX1, 18, rfl, by decide, pi_X1, pz_in 298 (by decide +kernel) rfl⟩
theorem fl_X0_74 : pz_FL RX0 74 1 12 := ⟨RX1, TX1, 18, rfl, by decide, pi_X1, pz_in 299 (by decide +kernel) rfl⟩
theorem fl_X1_40 : pz_FL RX1 40 1 13 := ⟨RX1, TX1, 18, rfl, by decide, pi_X1, pz_in 300 (by decide +kernel) rfl⟩
theorem fp_X1_40 : pz_FP RX1 40 1 13 (.array .int) true := ⟨RX1, TX1, 18, tyX1, rfl, by decide, pi_X1, pz_in 300 (by decide +kernel) rfl, tyX1_ok, nmX1, rfl, by decide +kernel, fun _ => rfl⟩
theorem fl_X4_124 : pz_FL RX4 124 1 13 := ⟨RX1, TX1, 18, rfl, by decide, pi_X1, pz_in 301 (by decide +kernel) rfl⟩
theorem fl_X1_43 : pz_FL RX1 43 1 14 := ⟨RX1, TX1, 18, rfl, by decide, pi_X1, pz_in 302 (by decide +kernel) rfl⟩
theorem fp_X1_43 : pz_FP RX1 43 1 14 (.array .int) true := ⟨RX1, TX1, 18, tyX1, rfl, by decide, pi_X1, pz_in 302 (by decide +kernel) rfl, tyX1_ok, nmX1, rfl, by decide +kernel, fun _ => rfl⟩
theorem fl_X2_121 : pz_FL RX2 121 1 14 := ⟨RX1, TX1, 18, rfl, by decide, pi_X1, pz_in 303 (by decide +kernel) rfl⟩
theorem fl_X1_46 : pz_FL RX1 46 1 15 := ⟨RX1, TX1, 18, rfl, by decide, pi_X1, pz_in 304 (by decide +kernel) rfl⟩
theorem fp_X1_46 : pz_FP RX1 46 1 15 (.array .int) true := ⟨RX1, TX1, 18, tyX1, rfl, by decide, pi_X1, pz_in 304 (by decide +kernel) rfl, tyX1_ok, nmX1, rfl, by decide +kernel, fun _ => rfl⟩
theorem fl_X2_124 : pz_FL RX2 124 1 15 := ⟨RX1, TX1, 18, rfl, by decide, pi_X1, pz_in 305 (by decide +kernel) rfl⟩
theorem fl_X1_49 : pz_FL RX1 49 1 16 := ⟨RX1, TX1, 18, rfl, by decide, pi_X1, pz_in 306 (by decide +kernel) rfl⟩
theorem fp_X1_49 : pz_FP RX1 49 1 16 (.array .int) true := ⟨RX1, TX1, 18, tyX1, rfl, by decide, pi_X1, pz_in 306 (by decide +kernel) rfl, tyX1_ok, nmX1, rfl, by decide +kernel, fun _ => rfl⟩
theorem fl_X2_118 : pz_FL RX2 118 1 16 := ⟨RX1, TX1, 18, rfl, by decide, pi_X1, pz_in 307 (by decide +kernel) rfl⟩
theorem fl_X1_52 : pz_FL RX1 52 1 17 := ⟨RX1, TX1, 18, rfl, by decide, pi_X1, pz_in 308 (by decide +kernel) rfl⟩
theorem fp_X1_52 : pz_FP RX1 52 1 17 .int false := ⟨RX1, TX1, 18, tyX1, rfl, by decide, pi_X1, pz_in 308 (by decide +kernel) rfl, tyX1_ok, nmX1, rfl, by decide +kernel, fun h => by cases h⟩
theorem fl_X4_223 : pz_FL RX4 223 1 17 := ⟨RX1, TX1, 18, rfl, by decide, pi_X1, pz_in 309 (by decide +kernel) rfl⟩
theorem fp_X4_223 : pz_FP RX4 223 1 17 .int false := ⟨RX1, TX1, 18, tyX1, rfl, by decide, pi_X1, pz_in 309 (by decide +kernel) rfl, tyX1_ok, nmX1, rfl, by decide +kernel, fun h => by cases h⟩
theorem fl_X5_82 : pz_FL RX5 82 5 0 := ⟨RX5, TX5, 29, rfl, by decide, pi_X5, pz_in 666 (by decide +kernel) rfl⟩
theorem fp_X5_82 : pz_FP RX5 82 5 0 .int false := ⟨RX5, TX5, 29, tyX5, rfl, by decide, pi_X5, pz_in 666 (by decide +kernel) rfl, tyX5_ok, nmX5, rfl, by decide +kernel, fun h => by cases h⟩
theorem fl_X5_7 : pz_FL RX5 7 5 1 := ⟨RX5, TX5, 29, rfl, by decide, pi_X5, pz_in 667 (by decide +kernel) rfl⟩
theorem fp_X5_7 : pz_FP RX5 7 5 1 (.array .int) true := ⟨RX5, TX5, 29, tyX5, rfl, by decide, pi_X5, pz_in 667 (by decide +kernel) rfl, tyX5_ok, nmX5, rfl, by decide +kernel, fun _ => rfl⟩
theorem fl_X5_13 : pz_FL RX5 13 5 2 := ⟨RX5, TX5, 29, rfl, by decide, pi_X5, pz_in 668 (by decide +kernel) rfl⟩
theorem fp_X5_13 : pz_FP RX5 13 5 2 (.array .int) true := ⟨RX5, TX5, 29, tyX5, rfl, by decide, pi_X5, pz_in 668 (by decide +kernel) rfl, tyX5_ok, nmX5, rfl, by decide +kernel, fun _ => rfl⟩
theorem fl_X5_16 : pz_FL RX5 16 5 3 := ⟨RX5, TX5, 29, rfl, by decide, pi_X5, pz_in 669 (by decide +kernel) rfl⟩
theorem fp_X5_16 : pz_FP RX5 16 5 3 (.array .int) true := ⟨RX5, TX5, 29, tyX5, rfl, by decide, pi_X5, pz_in 669 (by decide +kernel) rfl, tyX5_ok, nmX5, rfl, by decide +kernel, fun _ => rfl⟩
theorem fl_X5_19 : pz_FL RX5 19 5 4 := ⟨RX5, TX5, 29, rfl, by decide, pi_X5, pz_in 670 (by decide +kernel) rfl⟩
theorem fp_X5_19 : pz_FP RX5 19 5 4 (.array .int) true := ⟨RX5, TX5, 29, tyX5, rfl, by decide, pi_X5, pz_in 670 (by decide +kernel) rfl, tyX5_ok, nmX5, rfl, by decide +kernel, fun _ => rfl⟩
theorem fl_X5_22 : pz_FL RX5 22 5 5 := ⟨RX5, TX5, 29, rfl, by decide, pi_X5, pz_in 671 (by decide +kernel) rfl⟩
theorem fp_X5_22 : pz_FP RX5 22 5 5 (.array .int) true := ⟨RX5, TX5, 29, tyX5, rfl, by decide, pi_X5, pz_in 671 (by decide +kernel) rfl, tyX5_ok, nmX5, rfl, by decide +kernel, fun _ => rfl⟩
theorem fl_X5_25 : pz_FL RX5 25 5 6 := ⟨RX5, TX5, 29, rfl, by decide, pi_X5, pz_in 672 (by decide +kernel) rfl⟩
theorem fp_X5_25 : pz_FP RX5 25 5 6 (.array .int) true := ⟨RX5, TX5, 29, tyX5, rfl, by decide, pi_X5, pz_in 672 (by decide +kernel) rfl, tyX5_ok, nmX5, rfl, by decide +kernel, fun _ => rfl⟩
theorem fl_X5_28 : pz_FL RX5 28 5 7 := ⟨RX5, TX5, 29, rfl, by decide, pi_X5, pz_in 673 (by decide +kernel) rfl⟩
theorem fp_X5_28 : pz_FP RX5 28 5 7 (.array .int) true := ⟨RX5, TX5, 29, tyX5, rfl, by decide, pi_X5, pz_in 673 (by decide +kernel) rfl, tyX5_ok, nmX5, rfl, by decide +kernel, fun _ => rfl⟩
theorem fl_X5_31 : pz_FL RX5 31 5 8 := ⟨RX5, TX5, 29, rfl, by decide, pi_X5, pz_in 674 (by decide +kernel) rfl⟩
theorem fp_X5_31 : pz_FP RX5 31 5 8 (.array .int) true := ⟨RX5, TX5, 29, tyX5, rfl, by decide, pi_X5, pz_in 674 (by decide +kernel) rfl, tyX5_ok, nmX5, rfl, by decide +kernel, fun _ => rfl⟩
theorem fl_X5_34 : pz_FL RX5 34 5 9 := ⟨RX5, TX5, 29, rfl, by decide, pi_X5, pz_in 675 (by decide +kernel) rfl⟩
theorem fp_X5_34 : pz_FP RX5 34 5 9 (.array .int) true := ⟨RX5, TX5, 29, tyX5, rfl, by decide, pi_X5, pz_in 675 (by decide +kernel) rfl, tyX5_ok, nmX5, rfl, by decide +kernel, fun _ => rfl⟩
theorem fl_X5_37 : pz_FL RX5 37 5 10 := ⟨RX5, TX5, 29, rfl, by decide, pi_X5, pz_in 676 (by decide +kernel) rfl⟩
theorem fp_X5_37 : pz_FP RX5 37 5 10 (.array .int) true := ⟨RX5, TX5, 29, tyX5, rfl, by decide, pi_X5, pz_in 676 (by decide +kernel) rfl, tyX5_ok, nmX5, rfl, by decide +kernel, fun _ => rfl⟩
theorem fl_X5_40 : pz_FL RX5 40 5 11 := ⟨RX5, TX5, 29, rfl, by decide, pi_X5, pz_in 677 (by decide +kernel) rfl⟩
theorem fp_X5_40 : pz_FP RX5 40 5 11 (.array .int) true := ⟨RX5, TX5, 29, tyX5, rfl, by decide, pi_X5, pz_in 677 (by decide +kernel) rfl, tyX5_ok, nmX5, rfl, by decide +kernel, fun _ => rfl⟩
theorem fl_X5_117 : pz_FL RX5 117 5 12 := ⟨RX5, TX5, 29, rfl, by decide, pi_X5, pz_in 678 (by decide +kernel) rfl⟩
theorem fp_X5_117 : pz_FP RX5 117 5 12 .int false := ⟨RX5, TX5, 29, tyX5, rfl, by decide, pi_X5, pz_in 678 (by decide +kernel) rfl, tyX5_ok, nmX5, rfl, by decide +kernel, fun h => by cases h⟩
theorem fl_X5_123 : pz_FL RX5 123 5 13 := ⟨RX5, TX5, 29, rfl, by decide, pi_X5, pz_in 679 (by decide +kernel) rfl⟩
theorem fp_X5_123 : pz_FP RX5 123 5 13 .boolean false := ⟨RX5, TX5, 29, tyX5, rfl, by decide, pi_X5, pz_in 679 (by decide +kernel) rfl, tyX5_ok, nmX5, rfl, by decide +kernel, fun h => by cases h⟩
theorem fl_X5_43 : pz_FL RX5 43 5 14 := ⟨RX5, TX5, 29, rfl, by decide, pi_X5, pz_in 680 (by decide +kernel) rfl⟩
theorem fp_X5_43 : pz_FP RX5 43 5 14 (.array .int) true := ⟨RX5, TX5, 29, tyX5, rfl, by decide, pi_X5, pz_in 680 (by decide +kernel) rfl, tyX5_ok, nmX5, rfl, by decide +kernel, fun _ => rfl⟩
theorem fl_X5_120 : pz_FL RX5 120 5 15 := ⟨RX5, TX5, 29, rfl, by decide, pi_X5, pz_in 681 (by decide +kernel) rfl⟩
theorem fp_X5_120 : pz_FP RX5 120 5 15 .int false := ⟨RX5, TX5, 29, tyX5, rfl, by decide, pi_X5, pz_in 681 (by decide +kernel) rfl, tyX5_ok, nmX5, rfl, by decide +kernel, fun h => by cases h⟩
theorem fl_X5_46 : pz_FL RX5 46 5 16 := ⟨RX5, TX5, 29, rfl, by decide, pi_X5, pz_in 682 (by decide +kernel) rfl⟩
theorem fp_X5_46 : pz_FP RX5 46 5 16 (.array .int) true := ⟨RX5, TX5, 29, tyX5, rfl, by decide, pi_X5, pz_in 682 (by decide +kernel) rfl, tyX5_ok, nmX5, rfl, by decide +kernel, fun _ => rfl⟩
theorem fl_X5_49 : pz_FL RX5 49 5 17 := ⟨RX5, TX5, 29, rfl, by decide, pi_X5, pz_in 683 (by decide +kernel) rfl⟩
theorem fp_X5_49 : pz_FP RX5 49 5 17 (.array .int) true := ⟨RX5, TX5, 29, tyX5, rfl, by decide, pi_X5, pz_in 683 (by decide +kernel) rfl, tyX5_ok, nmX5, rfl, by decide +kernel, fun _ => rfl⟩
theorem fl_X5_52 : pz_FL RX5 52 5 18 := ⟨RX5, TX5, 29, rfl, by decide, pi_X5, pz_in 684 (by decide +kernel) rfl⟩
theorem fp_X5_52 : pz_FP RX5 52 5 18 .int false := ⟨RX5, TX5, 29, tyX5, rfl, by decide, pi_X5, pz_in 684 (by decide +kernel) rfl, tyX5_ok, nmX5, rfl, by decide +kernel, fun h => by cases h⟩
theorem fl_X5_56 : pz_FL RX5 56 5 19 := ⟨RX5, TX5, 29, rfl, by decide, pi_X5, pz_in 685 (by decide +kernel) rfl⟩
theorem fp_X5_56 : pz_FP RX5 56 5 19 (.array .int) true := ⟨RX5, TX5, 29, tyX5, rfl, by decide, pi_X5, pz_in 685 (by decide +kernel) rfl, tyX5_ok, nmX5, rfl, by decide +kernel, fun _ => rfl⟩
theorem fl_X5_59 : pz_FL RX5 59 5 20 := ⟨RX5, TX5, 29, rfl, by decide, pi_X5, pz_in 686 (by decide +kernel) rfl⟩
theorem fp_X5_59 : pz_FP RX5 59 5 20 (.array .int) true := ⟨RX5, TX5, 29, tyX5, rfl, by decide, pi_X5, pz_in 686 (by decide +kernel) rfl, tyX5_ok, nmX5, rfl, by decide +kernel, fun _ => rfl⟩
theorem fl_X5_62 : pz_FL RX5 62 5 21 := ⟨RX5, TX5, 29, rfl, by decide, pi_X5, pz_in 687 (by decide +kernel) rfl⟩
theorem fp_X5_62 : pz_FP RX5 62 5 21 (.array .int) true := ⟨RX5, TX5, 29, tyX5, rfl, by decide, pi_X5, pz_in 687 (by decide +kernel) rfl, tyX5_ok, nmX5, rfl, by decide +kernel, fun _ => rfl⟩
theorem fl_X5_65 : pz_FL RX5 65 5 22 := ⟨RX5, TX5, 29, rfl, by decide, pi_X5, pz_in 688 (by decide +kernel) rfl⟩
theorem fp_X5_65 : pz_FP RX5 65 5 22 (.array .boolean) true := ⟨RX5, TX5, 29, tyX5, rfl, by decide, pi_X5, pz_in 688 (by decide +kernel) rfl, tyX5_ok, nmX5, rfl, by decide +kernel, fun _ => rfl⟩
theorem fl_X5_69 : pz_FL RX5 69 5 23 := ⟨RX5, TX5, 29, rfl, by decide, pi_X5, pz_in 689 (by decide +kernel) rfl⟩
theorem fp_X5_69 : pz_FP RX5 69 5 23 (.array .int) true := ⟨RX5, TX5, 29, tyX5, rfl, by decide, pi_X5, pz_in 689 (by decide +kernel) rfl, tyX5_ok, nmX5, rfl, by decide +kernel, fun _ => rfl⟩
theorem fl_X5_184 : pz_FL RX5 184 5 24 := ⟨RX5, TX5, 29, rfl, by decide, pi_X5, pz_in 690 (by decide +kernel) rfl⟩
theorem fp_X5_184 : pz_FP RX5 184 5 24 .int false := ⟨RX5, TX5, 29, tyX5, rfl, by decide, pi_X5, pz_in 690 (by decide +kernel) rfl, tyX5_ok, nmX5, rfl, by decide +kernel, fun h => by cases h⟩
theorem fl_X5_72 : pz_FL RX5 72 5 25 := ⟨RX5, TX5, 29, rfl, by decide, pi_X5, pz_in 691 (by decide +kernel) rfl⟩
theorem fp_X5_72 : pz_FP RX5 72 5 25 (.array .int) true := ⟨RX5, TX5, 29, tyX5, rfl, by decide, pi_X5, pz_in 691 (by decide +kernel) rfl, tyX5_ok, nmX5, rfl, by decide +kernel, fun _ => rfl⟩
theorem fl_X5_76 : pz_FL RX5 76 5 26 := ⟨RX5, TX5, 29, rfl, by decide, pi_X5, pz_in 692 (by decide +kernel) rfl⟩
theorem fp_X5_76 : pz_FP RX5 76 5 26 (.array .int) true := ⟨RX5, TX5, 29, tyX5, rfl, by decide, pi_X5, pz_in 692 (by decide +kernel) rfl, tyX5_ok, nmX5, rfl, by decide +kernel, fun _ => rfl⟩
theorem fl_X5_79 : pz_FL RX5 79 5 27 := ⟨RX5, TX5, 29, rfl, by decide, pi_X5, pz_in 693 (by decide +kernel) rfl⟩
theorem fp_X5_79 : pz_FP RX5 79 5 27 (.array .int) true := ⟨RX5, TX5, 29, tyX5, rfl, by decide, pi_X5, pz_in 693 (by decide +kernel) rfl, tyX5_ok, nmX5, rfl, by decide +kernel, fun _ => rfl⟩
theorem fl_X5_211 : pz_FL RX5 211 5 28 := ⟨RX5, TX5, 29, rfl, by decide, pi_X5, pz_in 694 (by decide +kernel) rfl⟩
theorem fp_X5_211 : pz_FP RX5 211 5 28 .int false := ⟨RX5, TX5, 29, tyX5, rfl, by decide, pi_X5, pz_in 694 (by decide +kernel) rfl, tyX5_ok, nmX5, rfl, by decide +kernel, fun h => by cases h⟩
abbrev M_X0_init : pz_M := (yX0_init, cX0_init, 1, none)
theorem mf_X0_init : pz_MF M_X0_init 0 := ⟨pz_in 121 (by decide +kernel) rfl, pz_in 59 (by decide +kernel) rfl, by decide +kernel, by decide⟩
theorem mi_X0_init : Cond.instanceMethod yX0_init ∈ pz_U := pz_in 120 (by decide +kernel) rfl
abbrev M_X0_put : pz_M := (yX0_put, cX0_put, 7, none)
theorem mf_X0_put : pz_MF M_X0_put 2 := ⟨pz_in 589 (by decide +kernel) rfl, pz_in 59 (by decide +kernel) rfl, by decide +kernel, by decide⟩
theorem mi_X0_put : Cond.instanceMethod yX0_put ∈ pz_U := pz_in 587 (by decide +kernel) rfl
theorem ms_X0_put : Cond.selects RX0 yX0_put yX0_put ∈ pz_U := pz_in 588 (by decide +kernel) rfl
abbrev M_X0_bands : pz_M := (yX0_bands, cX0_bands, 3, (some .int))
theorem mf_X0_bands : pz_MF M_X0_bands 2 := ⟨pz_in 593 (by decide +kernel) rfl, pz_in 59 (by decide +kernel) rfl, by decide +kernel, by decide⟩
theorem mi_X0_bands : Cond.instanceMethod yX0_bands ∈ pz_U := pz_in 591 (by decide +kernel) rfl
theorem ms_X0_bands : Cond.selects RX0 yX0_bands yX0_bands ∈ pz_U := pz_in 592 (by decide +kernel) rfl
abbrev M_X0_lineBehind : pz_M := (yX0_lineBehind, cX0_lineBehind, 4, (some .int))
theorem mf_X0_lineBehind : pz_MF M_X0_lineBehind 3 := ⟨pz_in 597 (by decide +kernel) rfl, pz_in 59 (by decide +kernel) rfl, by decide +kernel, by decide⟩
theorem mi_X0_lineBehind : Cond.instanceMethod yX0_lineBehind ∈ pz_U := pz_in 595 (by decide +kernel) rfl
theorem ms_X0_lineBehind : Cond.selects RX0 yX0_lineBehind yX0_lineBehind ∈ pz_U := pz_in 596 (by decide +kernel) rfl
abbrev M_X0_isFrontUp : pz_M := (yX0_isFrontUp, cX0_isFrontUp, 3, (some .boolean))
theorem mf_X0_isFrontUp : pz_MF M_X0_isFrontUp 2 := ⟨pz_in 630 (by decide +kernel) rfl, pz_in 59 (by decide +kernel) rfl, by decide +kernel, by decide⟩
theorem mi_X0_isFrontUp : Cond.instanceMethod yX0_isFrontUp ∈ pz_U := pz_in 628 (by decide +kernel) rfl
theorem ms_X0_isFrontUp : Cond.selects RX0 yX0_isFrontUp yX0_isFrontUp ∈ pz_U := pz_in 629 (by decide +kernel) rfl
abbrev M_X0_linesFoldedBy : pz_M := (yX0_linesFoldedBy, cX0_linesFoldedBy, 7, (some .int))
theorem mf_X0_linesFoldedBy : pz_MF M_X0_linesFoldedBy 2 := ⟨pz_in 613 (by decide +kernel) rfl, pz_in 59 (by decide +kernel) rfl, by decide +kernel, by decide⟩
theorem mi_X0_linesFoldedBy : Cond.instanceMethod yX0_linesFoldedBy ∈ pz_U := pz_in 611 (by decide +kernel) rfl
theorem ms_X0_linesFoldedBy : Cond.selects RX0 yX0_linesFoldedBy yX0_linesFoldedBy ∈ pz_U := pz_in 612 (by decide +kernel) rfl
abbrev M_X0_unfoldedAt : pz_M := (yX0_unfoldedAt, cX0_unfoldedAt, 7, (some .int))
theorem mf_X0_unfoldedAt : pz_MF M_X0_unfoldedAt 3 := ⟨pz_in 617 (by decide +kernel) rfl, pz_in 59 (by decide +kernel) rfl, by decide +kernel, by decide⟩
theorem mi_X0_unfoldedAt : Cond.instanceMethod yX0_unfoldedAt ∈ pz_U := pz_in 616 (by decide +kernel) rfl
theorem ms_X0_unfoldedAt : Cond.selects RX0 yX0_unfoldedAt yX0_unfoldedAt ∈ pz_U := pz_in 25 (by decide +kernel) rfl
abbrev M_X0_isWithinOne : pz_M := (yX0_isWithinOne, cX0_isWithinOne, 5, (some .boolean))
theorem mf_X0_isWithinOne : pz_MF M_X0_isWithinOne 3 := ⟨pz_in 621 (by decide +kernel) rfl, pz_in 59 (by decide +kernel) rfl, by decide +kernel, by decide⟩
theorem mi_X0_isWithinOne : Cond.instanceMethod yX0_isWithinOne ∈ pz_U := pz_in 620 (by decide +kernel) rfl
theorem ms_X0_isWithinOne : Cond.selects RX0 yX0_isWithinOne yX0_isWithinOne ∈ pz_U := pz_in 26 (by decide +kernel) rfl
abbrev M_X0_marksAllow : pz_M := (yX0_marksAllow, cX0_marksAllow, 6, (some .boolean))
theorem mf_X0_marksAllow : pz_MF M_X0_marksAllow 3 := ⟨pz_in 626 (by decide +kernel) rfl, pz_in 59 (by decide +kernel) rfl, by decide +kernel, by decide⟩
theorem mi_X0_marksAllow : Cond.instanceMethod yX0_marksAllow ∈ pz_U := pz_in 625 (by decide +kernel) rfl
theorem ms_X0_marksAllow : Cond.selects RX0 yX0_marksAllow yX0_marksAllow ∈ pz_U := pz_in 27 (by decide +kernel) rfl
abbrev M_X1_init : pz_M := (yX1_init, cX1_init, 7, none)
theorem mf_X1_init : pz_MF M_X1_init 3 := ⟨pz_in 213 (by decide +kernel) rfl, pz_in 62 (by decide +kernel) rfl, by decide +kernel, by decide⟩
theorem mi_X1_init : Cond.instanceMethod yX1_init ∈ pz_U := pz_in 212 (by decide +kernel) rfl
abbrev M_X1_joinFaces : pz_M := (yX1_joinFaces, cX1_joinFaces, 2, none)
theorem mf_X1_joinFaces : pz_MF M_X1_joinFaces 0 := ⟨pz_in 221 (by decide +kernel) rfl, pz_in 62 (by decide +kernel) rfl, by decide +kernel, by decide⟩
theorem mi_X1_joinFaces : Cond.instanceMethod yX1_joinFaces ∈ pz_U := pz_in 220 (by decide +kernel) rfl
theorem ms_X1_joinFaces : Cond.selects RX1 yX1_joinFaces yX1_joinFaces ∈ pz_U := pz_in 1 (by decide +kernel) rfl
abbrev M_X1_join : pz_M := (yX1_join, cX1_join, 4, none)
theorem mf_X1_join : pz_MF M_X1_join 3 := ⟨pz_in 225 (by decide +kernel) rfl, pz_in 62 (by decide +kernel) rfl, by decide +kernel, by decide⟩
theorem mi_X1_join : Cond.instanceMethod yX1_join ∈ pz_U := pz_in 224 (by decide +kernel) rfl
theorem ms_X1_join : Cond.selects RX1 yX1_join yX1_join ∈ pz_U := pz_in 2 (by decide +kernel) rfl
abbrev M_X1_measure : pz_M := (yX1_measure, cX1_measure, 2, none)
theorem mf_X1_measure : pz_MF M_X1_measure 0 := ⟨pz_in 229 (by decide +kernel) rfl, pz_in 62 (by decide +kernel) rfl, by decide +kernel, by decide⟩
theorem mi_X1_measure : Cond.instanceMethod yX1_measure ∈ pz_U := pz_in 227 (by decide +kernel) rfl
theorem ms_X1_measure : Cond.selects RX1 yX1_measure yX1_measure ∈ pz_U := pz_in 228 (by decide +kernel) rfl
abbrev M_X1_sideOf : pz_M := (yX1_sideOf, cX1_sideOf, 4, (some .int))
theorem mf_X1_sideOf : pz_MF M_X1_sideOf 1 := ⟨pz_in 237 (by decide +kernel) rfl, pz_in 62 (by decide +kernel) rfl, by decide +kernel, by decide⟩
theorem mi_X1_sideOf : Cond.instanceMethod yX1_sideOf ∈ pz_U := pz_in 236 (by decide +kernel) rfl
theorem ms_X1_sideOf : Cond.selects RX1 yX1_sideOf yX1_sideOf ∈ pz_U := pz_in 3 (by decide +kernel) rfl
abbrev M_X1_facesOver : pz_M := (yX1_facesOver, cX1_facesOver, 5, (some .int))
theorem mf_X1_facesOver : pz_MF M_X1_facesOver 1 := ⟨pz_in 241 (by decide +kernel) rfl, pz_in 62 (by decide +kernel) rfl, by decide +kernel, by decide⟩
theorem mi_X1_facesOver : Cond.instanceMethod yX1_facesOver ∈ pz_U := pz_in 240 (by decide +kernel) rfl
theorem ms_X1_facesOver : Cond.selects RX1 yX1_facesOver yX1_facesOver ∈ pz_U := pz_in 4 (by decide +kernel) rfl
abbrev M_X1_rivalsOf : pz_M := (yX1_rivalsOf, cX1_rivalsOf, 4, (some .int))
theorem mf_X1_rivalsOf : pz_MF M_X1_rivalsOf 1 := ⟨pz_in 254 (by decide +kernel) rfl, pz_in 62 (by decide +kernel) rfl, by decide +kernel, by decide⟩
theorem mi_X1_rivalsOf : Cond.instanceMethod yX1_rivalsOf ∈ pz_U := pz_in 253 (by decide +kernel) rfl
theorem ms_X1_rivalsOf : Cond.selects RX1 yX1_rivalsOf yX1_rivalsOf ∈ pz_U := pz_in 5 (by decide +kernel) rfl
abbrev M_X1_onOneSide : pz_M := (yX1_onOneSide, cX1_onOneSide, 3, (some .boolean))
theorem mf_X1_onOneSide : pz_MF M_X1_onOneSide 2 := ⟨pz_in 258 (by decide +kernel) rfl, pz_in 62 (by decide +kernel) rfl, by decide +kernel, by decide⟩
theorem mi_X1_onOneSide : Cond.instanceMethod yX1_onOneSide ∈ pz_U := pz_in 257 (by decide +kernel) rfl
theorem ms_X1_onOneSide : Cond.selects RX1 yX1_onOneSide yX1_onOneSide ∈ pz_U := pz_in 6 (by decide +kernel) rfl
abbrev M_X1_haveFourFaces : pz_M := (yX1_haveFourFaces, cX1_haveFourFaces, 4, (some .boolean))
theorem mf_X1_haveFourFaces : pz_MF M_X1_haveFourFaces 2 := ⟨pz_in 262 (by decide +kernel) rfl, pz_in 62 (by decide +kernel) rfl, by decide +kernel, by decide⟩
theorem mi_X1_haveFourFaces : Cond.instanceMethod yX1_haveFourFaces ∈ pz_U := pz_in 261 (by decide +kernel) rfl
theorem ms_X1_haveFourFaces : Cond.selects RX1 yX1_haveFourFaces yX1_haveFourFaces ∈ pz_U := pz_in 7 (by decide +kernel) rfl
abbrev M_X1_hasFace : pz_M := (yX1_hasFace, cX1_hasFace, 2, (some .boolean))
theorem mf_X1_hasFace : pz_MF M_X1_hasFace 1 := ⟨pz_in 366 (by decide +kernel) rfl, pz_in 62 (by decide +kernel) rfl, by decide +kernel, by decide⟩
theorem mi_X1_hasFace : Cond.instanceMethod yX1_hasFace ∈ pz_U := pz_in 364 (by decide +kernel) rfl
theorem ms_X1_hasFace : Cond.selects RX1 yX1_hasFace yX1_hasFace ∈ pz_U := pz_in 365 (by decide +kernel) rfl
abbrev M_X1_hasCrease : pz_M := (yX1_hasCrease, cX1_hasCrease, 2, (some .boolean))
theorem mf_X1_hasCrease : pz_MF M_X1_hasCrease 1 := ⟨pz_in 375 (by decide +kernel) rfl, pz_in 62 (by decide +kernel) rfl, by decide +kernel, by decide⟩
theorem mi_X1_hasCrease : Cond.instanceMethod yX1_hasCrease ∈ pz_U := pz_in 373 (by decide +kernel) rfl
theorem ms_X1_hasCrease : Cond.selects RX1 yX1_hasCrease yX1_hasCrease ∈ pz_U := pz_in 374 (by decide +kernel) rfl
abbrev M_X1_isFrontUp : pz_M := (yX1_isFrontUp, cX1_isFrontUp, 2, (some .boolean))
theorem mf_X1_isFrontUp : pz_MF M_X1_isFrontUp 1 := ⟨pz_in 233 (by decide +kernel) rfl, pz_in 62 (by decide +kernel) rfl, by decide +kernel, by decide⟩
theorem mi_X1_isFrontUp : Cond.instanceMethod yX1_isFrontUp ∈ pz_U := pz_in 231 (by decide +kernel) rfl
theorem ms_X1_isFrontUp : Cond.selects RX1 yX1_isFrontUp yX1_isFrontUp ∈ pz_U := pz_in 232 (by decide +kernel) rfl
abbrev M_X1_isUneven : pz_M := (yX1_isUneven, cX1_isUneven, 1, (some .boolean))
theorem mf_X1_isUneven : pz_MF M_X1_isUneven 0 := ⟨pz_in 428 (by decide +kernel) rfl, pz_in 62 (by decide +kernel) rfl, by decide +kernel, by decide⟩
theorem mi_X1_isUneven : Cond.instanceMethod yX1_isUneven ∈ pz_U := pz_in 426 (by decide +kernel) rfl
theorem ms_X1_isUneven : Cond.selects RX1 yX1_isUneven yX1_isUneven ∈ pz_U := pz_in 427 (by decide +kernel) rfl
abbrev M_X1_marked : pz_M := (yX1_marked, cX1_marked, 4, (some .int))
theorem mf_X1_marked : pz_MF M_X1_marked 1 := ⟨pz_in 383 (by decide +kernel) rfl, pz_in 62 (by decide +kernel) rfl, by decide +kernel, by decide⟩
theorem mi_X1_marked : Cond.instanceMethod yX1_marked ∈ pz_U := pz_in 381 (by decide +kernel) rfl
theorem ms_X1_marked : Cond.selects RX1 yX1_marked yX1_marked ∈ pz_U := pz_in 382 (by decide +kernel) rfl
abbrev M_X1_becomes : pz_M := (yX1_becomes, cX1_becomes, 4, (some .int))
theorem mf_X1_becomes : pz_MF M_X1_becomes 2 := ⟨pz_in 472 (by decide +kernel) rfl, pz_in 62 (by decide +kernel) rfl, by decide +kernel, by decide⟩
theorem mi_X1_becomes : Cond.instanceMethod yX1_becomes ∈ pz_U := pz_in 470 (by decide +kernel) rfl
theorem ms_X1_becomes : Cond.selects RX1 yX1_becomes yX1_becomes ∈ pz_U := pz_in 471 (by decide +kernel) rfl
abbrev M_X1_valleysIn : pz_M := (yX1_valleysIn, cX1_valleysIn, 4, (some .int))
theorem mf_X1_valleysIn : pz_MF M_X1_valleysIn 1 := ⟨pz_in 555 (by decide +kernel) rfl, pz_in 62 (by decide +kernel) rfl, by decide +kernel, by decide⟩
theorem mi_X1_valleysIn : Cond.instanceMethod yX1_valleysIn ∈ pz_U := pz_in 553 (by decide +kernel) rfl
theorem ms_X1_valleysIn : Cond.selects RX1 yX1_valleysIn yX1_valleysIn ∈ pz_U := pz_in 554 (by decide +kernel) rfl
abbrev M_X1_brokenMark : pz_M := (yX1_brokenMark, cX1_brokenMark, 3, (some .int))
theorem mf_X1_brokenMark : pz_MF M_X1_brokenMark 1 := ⟨pz_in 504 (by decide +kernel) rfl, pz_in 62 (by decide +kernel) rfl, by decide +kernel, by decide⟩
theorem mi_X1_brokenMark : Cond.instanceMethod yX1_brokenMark ∈ pz_U := pz_in 502 (by decide +kernel) rfl
theorem ms_X1_brokenMark : Cond.selects RX1 yX1_brokenMark yX1_brokenMark ∈ pz_U := pz_in 503 (by decide +kernel) rfl
abbrev M_X1_brokenThrough : pz_M := (yX1_brokenThrough, cX1_brokenThrough, 4, (some .int))
theorem mf_X1_brokenThrough : pz_MF M_X1_brokenThrough 1 := ⟨pz_in 509 (by decide +kernel) rfl, pz_in 62 (by decide +kernel) rfl, by decide +kernel, by decide⟩
theorem mi_X1_brokenThrough : Cond.instanceMethod yX1_brokenThrough ∈ pz_U := pz_in 507 (by decide +kernel) rfl
theorem ms_X1_brokenThrough : Cond.selects RX1 yX1_brokenThrough yX1_brokenThrough ∈ pz_U := pz_in 508 (by decide +kernel) rfl
abbrev M_X1_brokenAcross : pz_M := (yX1_brokenAcross, cX1_brokenAcross, 4, (some .int))
theorem mf_X1_brokenAcross : pz_MF M_X1_brokenAcross 1 := ⟨pz_in 518 (by decide +kernel) rfl, pz_in 62 (by decide +kernel) rfl, by decide +kernel, by decide⟩
theorem mi_X1_brokenAcross : Cond.instanceMethod yX1_brokenAcross ∈ pz_U := pz_in 516 (by decide +kernel) rfl
theorem ms_X1_brokenAcross : Cond.selects RX1 yX1_brokenAcross yX1_brokenAcross ∈ pz_U := pz_in 517 (by decide +kernel) rfl
abbrev M_X1_liesWithin : pz_M := (yX1_liesWithin, cX1_liesWithin, 4, (some .boolean))
theorem mf_X1_liesWithin : pz_MF M_X1_liesWithin 3 := ⟨pz_in 514 (by decide +kernel) rfl, pz_in 62 (by decide +kernel) rfl, by decide +kernel, by decide⟩
theorem mi_X1_liesWithin : Cond.instanceMethod yX1_liesWithin ∈ pz_U := pz_in 513 (by decide +kernel) rfl
theorem ms_X1_liesWithin : Cond.selects RX1 yX1_liesWithin yX1_liesWithin ∈ pz_U := pz_in 17 (by decide +kernel) rfl
abbrev M_X1_isBetween : pz_M := (yX1_isBetween, cX1_isBetween, 3, (some .boolean))
theorem mf_X1_isBetween : pz_MF M_X1_isBetween 3 := ⟨pz_in 244 (by decide +kernel) rfl, pz_in 62 (by decide +kernel) rfl, by decide +kernel, by decide⟩
theorem mt_X1_isBetween : Cond.static yX1_isBetween ∈ pz_U := pz_in 243 (by decide +kernel) rfl
abbrev M_X1_allLines : pz_M := (yX1_allLines, cX1_allLines, 1, (some .int))
theorem mf_X1_allLines : pz_MF M_X1_allLines 0 := ⟨pz_in 584 (by decide +kernel) rfl, pz_in 62 (by decide +kernel) rfl, by decide +kernel, by decide⟩
theorem mi_X1_allLines : Cond.instanceMethod yX1_allLines ∈ pz_U := pz_in 582 (by decide +kernel) rfl
theorem ms_X1_allLines : Cond.selects RX1 yX1_allLines yX1_allLines ∈ pz_U := pz_in 583 (by decide +kernel) rfl
abbrev M_X1_creasesOn : pz_M := (yX1_creasesOn, cX1_creasesOn, 4, (some .int))
theorem mf_X1_creasesOn : pz_MF M_X1_creasesOn 1 := ⟨pz_in 649 (by decide +kernel) rfl, pz_in 62 (by decide +kernel) rfl, by decide +kernel, by decide⟩
theorem mi_X1_creasesOn : Cond.instanceMethod yX1_creasesOn ∈ pz_U := pz_in 647 (by decide +kernel) rfl
theorem ms_X1_creasesOn : Cond.selects RX1 yX1_creasesOn yX1_creasesOn ∈ pz_U := pz_in 648 (by decide +kernel) rfl
abbrev M_X2_init : pz_M := (yX2_init, cX2_init, 1, none)
theorem mf_X2_init : pz_MF M_X2_init 0 := ⟨pz_in 81 (by decide +kernel) rfl, pz_in 58 (by decide +kernel) rfl, by decide +kernel, by decide⟩
theorem mi_X2_init : Cond.instanceMethod yX2_init ∈ pz_U := pz_in 80 (by decide +kernel) rfl
abbrev M_X2_begin : pz_M := (yX2_begin, cX2_begin, 2, none)
theorem mf_X2_begin : pz_MF M_X2_begin 1 := ⟨pz_in 401 (by decide +kernel) rfl, pz_in 58 (by decide +kernel) rfl, by decide +kernel, by decide⟩
theorem mi_X2_begin : Cond.instanceMethod yX2_begin ∈ pz_U := pz_in 399 (by decide +kernel) rfl
theorem ms_X2_begin : Cond.selects RX2 yX2_begin yX2_begin ∈ pz_U := pz_in 400 (by decide +kernel) rfl
abbrev M_X2_beginWith : pz_M := (yX2_beginWith, cX2_beginWith, 4, none)
theorem mf_X2_beginWith : pz_MF M_X2_beginWith 2 := ⟨pz_in 405 (by decide +kernel) rfl, pz_in 58 (by decide +kernel) rfl, by decide +kernel, by decide⟩
theorem mi_X2_beginWith : Cond.instanceMethod yX2_beginWith ∈ pz_U := pz_in 403 (by decide +kernel) rfl
theorem ms_X2_beginWith : Cond.selects RX2 yX2_beginWith yX2_beginWith ∈ pz_U := pz_in 404 (by decide +kernel) rfl
abbrev M_X2_demandTurn : pz_M := (yX2_demandTurn, cX2_demandTurn, 6, none)
theorem mf_X2_demandTurn : pz_MF M_X2_demandTurn 2 := ⟨pz_in 413 (by decide +kernel) rfl, pz_in 58 (by decide +kernel) rfl, by decide +kernel, by decide⟩
theorem mi_X2_demandTurn : Cond.instanceMethod yX2_demandTurn ∈ pz_U := pz_in 411 (by decide +kernel) rfl
theorem ms_X2_demandTurn : Cond.selects RX2 yX2_demandTurn yX2_demandTurn ∈ pz_U := pz_in 412 (by decide +kernel) rfl
abbrev M_X2_demandBelow : pz_M := (yX2_demandBelow, cX2_demandBelow, 3, none)
theorem mf_X2_demandBelow : pz_MF M_X2_demandBelow 2 := ⟨pz_in 419 (by decide +kernel) rfl, pz_in 58 (by decide +kernel) rfl, by decide +kernel, by decide⟩
theorem mi_X2_demandBelow : Cond.instanceMethod yX2_demandBelow ∈ pz_U := pz_in 417 (by decide +kernel) rfl
theorem ms_X2_demandBelow : Cond.selects RX2 yX2_demandBelow yX2_demandBelow ∈ pz_U := pz_in 418 (by decide +kernel) rfl
abbrev M_X2_next : pz_M := (yX2_next, cX2_next, 3, (some .boolean))
theorem mf_X2_next : pz_MF M_X2_next 0 := ⟨pz_in 424 (by decide +kernel) rfl, pz_in 58 (by decide +kernel) rfl, by decide +kernel, by decide⟩
theorem mi_X2_next : Cond.instanceMethod yX2_next ∈ pz_U := pz_in 422 (by decide +kernel) rfl
theorem ms_X2_next : Cond.selects RX2 yX2_next yX2_next ∈ pz_U := pz_in 423 (by decide +kernel) rfl
abbrev M_X2_asNumber : pz_M := (yX2_asNumber, cX2_asNumber, 4, (some .long))
theorem mf_X2_asNumber : pz_MF M_X2_asNumber 0 := ⟨pz_in 487 (by decide +kernel) rfl, pz_in 58 (by decide +kernel) rfl, by decide +kernel, by decide⟩
theorem mi_X2_asNumber : Cond.instanceMethod yX2_asNumber ∈ pz_U := pz_in 485 (by decide +kernel) rfl
theorem ms_X2_asNumber : Cond.selects RX2 yX2_asNumber yX2_asNumber ∈ pz_U := pz_in 486 (by decide +kernel) rfl
abbrev M_X2_demandsClash : pz_M := (yX2_demandsClash, cX2_demandsClash, 4, (some .boolean))
theorem mf_X2_demandsClash : pz_MF M_X2_demandsClash 1 := ⟨pz_in 432 (by decide +kernel) rfl, pz_in 58 (by decide +kernel) rfl, by decide +kernel, by decide⟩
theorem mi_X2_demandsClash : Cond.instanceMethod yX2_demandsClash ∈ pz_U := pz_in 431 (by decide +kernel) rfl
theorem ms_X2_demandsClash : Cond.selects RX2 yX2_demandsClash yX2_demandsClash ∈ pz_U := pz_in 9 (by decide +kernel) rfl
abbrev M_X2_leastUntried : pz_M := (yX2_leastUntried, cX2_leastUntried, 2, (some .int))
theorem mf_X2_leastUntried : pz_MF M_X2_leastUntried 0 := ⟨pz_in 449 (by decide +kernel) rfl, pz_in 58 (by decide +kernel) rfl, by decide +kernel, by decide⟩
theorem mi_X2_leastUntried : Cond.instanceMethod yX2_leastUntried ∈ pz_U := pz_in 448 (by decide +kernel) rfl
theorem ms_X2_leastUntried : Cond.selects RX2 yX2_leastUntried yX2_leastUntried ∈ pz_U := pz_in 13 (by decide +kernel) rfl
abbrev M_X2_put : pz_M := (yX2_put, cX2_put, 3, none)
theorem mf_X2_put : pz_MF M_X2_put 2 := ⟨pz_in 453 (by decide +kernel) rfl, pz_in 58 (by decide +kernel) rfl, by decide +kernel, by decide⟩
theorem mi_X2_put : Cond.instanceMethod yX2_put ∈ pz_U := pz_in 452 (by decide +kernel) rfl
theorem ms_X2_put : Cond.selects RX2 yX2_put yX2_put ∈ pz_U := pz_in 14 (by decide +kernel) rfl
abbrev M_X2_takeOff : pz_M := (yX2_takeOff, cX2_takeOff, 1, none)
theorem mf_X2_takeOff : pz_MF M_X2_takeOff 0 := ⟨pz_in 457 (by decide +kernel) rfl, pz_in 58 (by decide +kernel) rfl, by decide +kernel, by decide⟩
theorem mi_X2_takeOff : Cond.instanceMethod yX2_takeOff ∈ pz_U := pz_in 456 (by decide +kernel) rfl
theorem ms_X2_takeOff : Cond.selects RX2 yX2_takeOff yX2_takeOff ∈ pz_U := pz_in 15 (by decide +kernel) rfl
abbrev M_X2_candidates : pz_M := (yX2_candidates, cX2_candidates, 5, (some .int))
theorem mf_X2_candidates : pz_MF M_X2_candidates 1 := ⟨pz_in 436 (by decide +kernel) rfl, pz_in 58 (by decide +kernel) rfl, by decide +kernel, by decide⟩
theorem mi_X2_candidates : Cond.instanceMethod yX2_candidates ∈ pz_U := pz_in 435 (by decide +kernel) rfl
theorem ms_X2_candidates : Cond.selects RX2 yX2_candidates yX2_candidates ∈ pz_U := pz_in 10 (by decide +kernel) rfl
abbrev M_X2_readyAmong : pz_M := (yX2_readyAmong, cX2_readyAmong, 5, (some .int))
theorem mf_X2_readyAmong : pz_MF M_X2_readyAmong 2 := ⟨pz_in 444 (by decide +kernel) rfl, pz_in 58 (by decide +kernel) rfl, by decide +kernel, by decide⟩
theorem mi_X2_readyAmong : Cond.instanceMethod yX2_readyAmong ∈ pz_U := pz_in 443 (by decide +kernel) rfl
theorem ms_X2_readyAmong : Cond.selects RX2 yX2_readyAmong yX2_readyAmong ∈ pz_U := pz_in 12 (by decide +kernel) rfl
abbrev M_X2_barredFromClosing : pz_M := (yX2_barredFromClosing, cX2_barredFromClosing, 7, (some .int))
theorem mf_X2_barredFromClosing : pz_MF M_X2_barredFromClosing 2 := ⟨pz_in 440 (by decide +kernel) rfl, pz_in 58 (by decide +kernel) rfl, by decide +kernel, by decide⟩
theorem mi_X2_barredFromClosing : Cond.instanceMethod yX2_barredFromClosing ∈ pz_U := pz_in 439 (by decide +kernel) rfl
theorem ms_X2_barredFromClosing : Cond.selects RX2 yX2_barredFromClosing yX2_barredFromClosing ∈ pz_U := pz_in 11 (by decide +kernel) rfl
abbrev M_X3_init : pz_M := (yX3_init, cX3_init, 1, none)
theorem mf_X3_init : pz_MF M_X3_init 0 := ⟨pz_in 143 (by decide +kernel) rfl, pz_in 60 (by decide +kernel) rfl, by decide +kernel, by decide⟩
theorem mi_X3_init : Cond.instanceMethod yX3_init ∈ pz_U := pz_in 142 (by decide +kernel) rfl
abbrev M_X3_explore : pz_M := (yX3_explore, cX3_explore, 5, none)
theorem mf_X3_explore : pz_MF M_X3_explore 2 := ⟨pz_in 580 (by decide +kernel) rfl, pz_in 60 (by decide +kernel) rfl, by decide +kernel, by decide⟩
theorem mi_X3_explore : Cond.instanceMethod yX3_explore ∈ pz_U := pz_in 578 (by decide +kernel) rfl
theorem ms_X3_explore : Cond.selects RX3 yX3_explore yX3_explore ∈ pz_U := pz_in 579 (by decide +kernel) rfl
abbrev M_X3_tryLines : pz_M := (yX3_tryLines, cX3_tryLines, 7, none)
theorem mf_X3_tryLines : pz_MF M_X3_tryLines 4 := ⟨pz_in 602 (by decide +kernel) rfl, pz_in 60 (by decide +kernel) rfl, by decide +kernel, by decide⟩
theorem mi_X3_tryLines : Cond.instanceMethod yX3_tryLines ∈ pz_U := pz_in 601 (by decide +kernel) rfl
theorem ms_X3_tryLines : Cond.selects RX3 yX3_tryLines yX3_tryLines ∈ pz_U := pz_in 23 (by decide +kernel) rfl
abbrev M_X3_tryStep : pz_M := (yX3_tryStep, cX3_tryStep, 8, none)
theorem mf_X3_tryStep : pz_MF M_X3_tryStep 4 := ⟨pz_in 609 (by decide +kernel) rfl, pz_in 60 (by decide +kernel) rfl, by decide +kernel, by decide⟩
theorem mi_X3_tryStep : Cond.instanceMethod yX3_tryStep ∈ pz_U := pz_in 608 (by decide +kernel) rfl
theorem ms_X3_tryStep : Cond.selects RX3 yX3_tryStep yX3_tryStep ∈ pz_U := pz_in 24 (by decide +kernel) rfl
abbrev M_X3_trace : pz_M := (yX3_trace, cX3_trace, 5, (some .int))
theorem mf_X3_trace : pz_MF M_X3_trace 2 := ⟨pz_in 635 (by decide +kernel) rfl, pz_in 60 (by decide +kernel) rfl, by decide +kernel, by decide⟩
theorem mi_X3_trace : Cond.instanceMethod yX3_trace ∈ pz_U := pz_in 633 (by decide +kernel) rfl
theorem ms_X3_trace : Cond.selects RX3 yX3_trace yX3_trace ∈ pz_U := pz_in 634 (by decide +kernel) rfl
abbrev M_X4_init : pz_M := (yX4_init, cX4_init, 1, none)
theorem mf_X4_init : pz_MF M_X4_init 0 := ⟨pz_in 71 (by decide +kernel) rfl, pz_in 57 (by decide +kernel) rfl, by decide +kernel, by decide⟩
theorem mi_X4_init : Cond.instanceMethod yX4_init ∈ pz_U := pz_in 70 (by decide +kernel) rfl
abbrev M_X4_strip : pz_M := (yX4_strip, cX4_strip, 2, (some .int))
theorem mf_X4_strip : pz_MF M_X4_strip 1 := ⟨pz_in 205 (by decide +kernel) rfl, pz_in 57 (by decide +kernel) rfl, by decide +kernel, by decide⟩
theorem mi_X4_strip : Cond.instanceMethod yX4_strip ∈ pz_U := pz_in 203 (by decide +kernel) rfl
theorem ms_X4_strip : Cond.selects RX4 yX4_strip yX4_strip ∈ pz_U := pz_in 204 (by decide +kernel) rfl
abbrev M_X4_corner : pz_M := (yX4_corner, cX4_corner, 2, (some .int))
theorem mf_X4_corner : pz_MF M_X4_corner 1 := ⟨pz_in 350 (by decide +kernel) rfl, pz_in 57 (by decide +kernel) rfl, by decide +kernel, by decide⟩
theorem mi_X4_corner : Cond.instanceMethod yX4_corner ∈ pz_U := pz_in 348 (by decide +kernel) rfl
theorem ms_X4_corner : Cond.selects RX4 yX4_corner yX4_corner ∈ pz_U := pz_in 349 (by decide +kernel) rfl
abbrev M_X4_map : pz_M := (yX4_map, cX4_map, 3, (some .int))
theorem mf_X4_map : pz_MF M_X4_map 2 := ⟨pz_in 354 (by decide +kernel) rfl, pz_in 57 (by decide +kernel) rfl, by decide +kernel, by decide⟩
theorem mi_X4_map : Cond.instanceMethod yX4_map ∈ pz_U := pz_in 352 (by decide +kernel) rfl
theorem ms_X4_map : Cond.selects RX4 yX4_map yX4_map ∈ pz_U := pz_in 353 (by decide +kernel) rfl
abbrev M_X4_length : pz_M := (yX4_length, cX4_length, 6, (some .int))
theorem mf_X4_length : pz_MF M_X4_length 3 := ⟨pz_in 358 (by decide +kernel) rfl, pz_in 57 (by decide +kernel) rfl, by decide +kernel, by decide⟩
theorem mi_X4_length : Cond.instanceMethod yX4_length ∈ pz_U := pz_in 356 (by decide +kernel) rfl
theorem ms_X4_length : Cond.selects RX4 yX4_length yX4_length ∈ pz_U := pz_in 357 (by decide +kernel) rfl
abbrev M_X4_mark : pz_M := (yX4_mark, cX4_mark, 6, (some .int))
theorem mf_X4_mark : pz_MF M_X4_mark 3 := ⟨pz_in 371 (by decide +kernel) rfl, pz_in 57 (by decide +kernel) rfl, by decide +kernel, by decide⟩
theorem mi_X4_mark : Cond.instanceMethod yX4_mark ∈ pz_U := pz_in 369 (by decide +kernel) rfl
theorem ms_X4_mark : Cond.selects RX4 yX4_mark yX4_mark ∈ pz_U := pz_in 370 (by decide +kernel) rfl
abbrev M_X4_about : pz_M := (yX4_about, cX4_about, 4, (some .int))
theorem mf_X4_about : pz_MF M_X4_about 2 := ⟨pz_in 379 (by decide +kernel) rfl, pz_in 57 (by decide +kernel) rfl, by decide +kernel, by decide⟩
theorem mi_X4_about : Cond.instanceMethod yX4_about ∈ pz_U := pz_in 377 (by decide +kernel) rfl
theorem ms_X4_about : Cond.selects RX4 yX4_about yX4_about ∈ pz_U := pz_in 378 (by decide +kernel) rfl
abbrev M_X4_crease : pz_M := (yX4_crease, cX4_crease, 5, (some .int))
theorem mf_X4_crease : pz_MF M_X4_crease 3 := ⟨pz_in 393 (by decide +kernel) rfl, pz_in 57 (by decide +kernel) rfl, by decide +kernel, by decide⟩
theorem mi_X4_crease : Cond.instanceMethod yX4_crease ∈ pz_U := pz_in 391 (by decide +kernel) rfl
theorem ms_X4_crease : Cond.selects RX4 yX4_crease yX4_crease ∈ pz_U := pz_in 392 (by decide +kernel) rfl
abbrev M_X4_judge : pz_M := (yX4_judge, cX4_judge, 3, (some .int))
theorem mf_X4_judge : pz_MF M_X4_judge 1 := ⟨pz_in 397 (by decide +kernel) rfl, pz_in 57 (by decide +kernel) rfl, by decide +kernel, by decide⟩
theorem mi_X4_judge : Cond.instanceMethod yX4_judge ∈ pz_U := pz_in 395 (by decide +kernel) rfl
theorem ms_X4_judge : Cond.selects RX4 yX4_judge yX4_judge ∈ pz_U := pz_in 396 (by decide +kernel) rfl
abbrev M_X4_layer : pz_M := (yX4_layer, cX4_layer, 2, (some .int))
theorem mf_X4_layer : pz_MF M_X4_layer 1 := ⟨pz_in 464 (by decide +kernel) rfl, pz_in 57 (by decide +kernel) rfl, by decide +kernel, by decide⟩
theorem mi_X4_layer : Cond.instanceMethod yX4_layer ∈ pz_U := pz_in 462 (by decide +kernel) rfl
theorem ms_X4_layer : Cond.selects RX4 yX4_layer yX4_layer ∈ pz_U := pz_in 463 (by decide +kernel) rfl
abbrev M_X4_turned : pz_M := (yX4_turned, cX4_turned, 2, (some .int))
theorem mf_X4_turned : pz_MF M_X4_turned 1 := ⟨pz_in 468 (by decide +kernel) rfl, pz_in 57 (by decide +kernel) rfl, by decide +kernel, by decide⟩
theorem mi_X4_turned : Cond.instanceMethod yX4_turned ∈ pz_U := pz_in 466 (by decide +kernel) rfl
theorem ms_X4_turned : Cond.selects RX4 yX4_turned yX4_turned ∈ pz_U := pz_in 467 (by decide +kernel) rfl
abbrev M_X4_orders : pz_M := (yX4_orders, cX4_orders, 4, (some .int))
theorem mf_X4_orders : pz_MF M_X4_orders 1 := ⟨pz_in 476 (by decide +kernel) rfl, pz_in 57 (by decide +kernel) rfl, by decide +kernel, by decide⟩
theorem mi_X4_orders : Cond.instanceMethod yX4_orders ∈ pz_U := pz_in 474 (by decide +kernel) rfl
theorem ms_X4_orders : Cond.selects RX4 yX4_orders yX4_orders ∈ pz_U := pz_in 475 (by decide +kernel) rfl
abbrev M_X4_order : pz_M := (yX4_order, cX4_order, 5, (some .long))
theorem mf_X4_order : pz_MF M_X4_order 2 := ⟨pz_in 481 (by decide +kernel) rfl, pz_in 57 (by decide +kernel) rfl, by decide +kernel, by decide⟩
theorem mi_X4_order : Cond.instanceMethod yX4_order ∈ pz_U := pz_in 479 (by decide +kernel) rfl
theorem ms_X4_order : Cond.selects RX4 yX4_order yX4_order ∈ pz_U := pz_in 480 (by decide +kernel) rfl
abbrev M_X4_check : pz_M := (yX4_check, cX4_check, 6, (some .int))
theorem mf_X4_check : pz_MF M_X4_check 2 := ⟨pz_in 492 (by decide +kernel) rfl, pz_in 57 (by decide +kernel) rfl, by decide +kernel, by decide⟩
theorem mi_X4_check : Cond.instanceMethod yX4_check ∈ pz_U := pz_in 490 (by decide +kernel) rfl
theorem ms_X4_check : Cond.selects RX4 yX4_check yX4_check ∈ pz_U := pz_in 491 (by decide +kernel) rfl
abbrev M_X4_forced : pz_M := (yX4_forced, cX4_forced, 4, (some .int))
theorem mf_X4_forced : pz_MF M_X4_forced 2 := ⟨pz_in 522 (by decide +kernel) rfl, pz_in 57 (by decide +kernel) rfl, by decide +kernel, by decide⟩
theorem mi_X4_forced : Cond.instanceMethod yX4_forced ∈ pz_U := pz_in 520 (by decide +kernel) rfl
theorem ms_X4_forced : Cond.selects RX4 yX4_forced yX4_forced ∈ pz_U := pz_in 521 (by decide +kernel) rfl
abbrev M_X4_above : pz_M := (yX4_above, cX4_above, 7, (some .int))
theorem mf_X4_above : pz_MF M_X4_above 3 := ⟨pz_in 531 (by decide +kernel) rfl, pz_in 57 (by decide +kernel) rfl, by decide +kernel, by decide⟩
theorem mi_X4_above : Cond.instanceMethod yX4_above ∈ pz_U := pz_in 529 (by decide +kernel) rfl
theorem ms_X4_above : Cond.selects RX4 yX4_above yX4_above ∈ pz_U := pz_in 530 (by decide +kernel) rfl
abbrev M_X4_alike : pz_M := (yX4_alike, cX4_alike, 5, (some .int))
theorem mf_X4_alike : pz_MF M_X4_alike 2 := ⟨pz_in 540 (by decide +kernel) rfl, pz_in 57 (by decide +kernel) rfl, by decide +kernel, by decide⟩
theorem mi_X4_alike : Cond.instanceMethod yX4_alike ∈ pz_U := pz_in 538 (by decide +kernel) rfl
theorem ms_X4_alike : Cond.selects RX4 yX4_alike yX4_alike ∈ pz_U := pz_in 539 (by decide +kernel) rfl
abbrev M_X4_foldings : pz_M := (yX4_foldings, cX4_foldings, 5, (some .int))
theorem mf_X4_foldings : pz_MF M_X4_foldings 1 := ⟨pz_in 548 (by decide +kernel) rfl, pz_in 57 (by decide +kernel) rfl, by decide +kernel, by decide⟩
theorem mi_X4_foldings : Cond.instanceMethod yX4_foldings ∈ pz_U := pz_in 546 (by decide +kernel) rfl
theorem ms_X4_foldings : Cond.selects RX4 yX4_foldings yX4_foldings ∈ pz_U := pz_in 547 (by decide +kernel) rfl
abbrev M_X4_clash : pz_M := (yX4_clash, cX4_clash, 6, (some .int))
theorem mf_X4_clash : pz_MF M_X4_clash 1 := ⟨pz_in 563 (by decide +kernel) rfl, pz_in 57 (by decide +kernel) rfl, by decide +kernel, by decide⟩
theorem mi_X4_clash : Cond.instanceMethod yX4_clash ∈ pz_U := pz_in 561 (by decide +kernel) rfl
theorem ms_X4_clash : Cond.selects RX4 yX4_clash yX4_clash ∈ pz_U := pz_in 562 (by decide +kernel) rfl
abbrev M_X4_inClash : pz_M := (yX4_inClash, cX4_inClash, 2, (some .int))
theorem mf_X4_inClash : pz_MF M_X4_inClash 1 := ⟨pz_in 572 (by decide +kernel) rfl, pz_in 57 (by decide +kernel) rfl, by decide +kernel, by decide⟩
theorem mi_X4_inClash : Cond.instanceMethod yX4_inClash ∈ pz_U := pz_in 570 (by decide +kernel) rfl
theorem ms_X4_inClash : Cond.selects RX4 yX4_inClash yX4_inClash ∈ pz_U := pz_in 571 (by decide +kernel) rfl
abbrev M_X4_simple : pz_M := (yX4_simple, cX4_simple, 3, (some .int))
theorem mf_X4_simple : pz_MF M_X4_simple 1 := ⟨pz_in 576 (by decide +kernel) rfl, pz_in 57 (by decide +kernel) rfl, by decide +kernel, by decide⟩
theorem mi_X4_simple : Cond.instanceMethod yX4_simple ∈ pz_U := pz_in 574 (by decide +kernel) rfl
theorem ms_X4_simple : Cond.selects RX4 yX4_simple yX4_simple ∈ pz_U := pz_in 575 (by decide +kernel) rfl
abbrev M_X4_step : pz_M := (yX4_step, cX4_step, 2, (some .int))
theorem mf_X4_step : pz_MF M_X4_step 1 := ⟨pz_in 639 (by decide +kernel) rfl, pz_in 57 (by decide +kernel) rfl, by decide +kernel, by decide⟩
theorem mi_X4_step : Cond.instanceMethod yX4_step ∈ pz_U := pz_in 637 (by decide +kernel) rfl
theorem ms_X4_step : Cond.selects RX4 yX4_step yX4_step ∈ pz_U := pz_in 638 (by decide +kernel) rfl
abbrev M_X4_fold : pz_M := (yX4_fold, cX4_fold, 5, (some .int))
theorem mf_X4_fold : pz_MF M_X4_fold 2 := ⟨pz_in 643 (by decide +kernel) rfl, pz_in 57 (by decide +kernel) rfl, by decide +kernel, by decide⟩
theorem mi_X4_fold : Cond.instanceMethod yX4_fold ∈ pz_U := pz_in 641 (by decide +kernel) rfl
theorem ms_X4_fold : Cond.selects RX4 yX4_fold yX4_fold ∈ pz_U := pz_in 642 (by decide +kernel) rfl
abbrev M_X4_flatten : pz_M := (yX4_flatten, cX4_flatten, 4, (some .int))
theorem mf_X4_flatten : pz_MF M_X4_flatten 1 := ⟨pz_in 653 (by decide +kernel) rfl, pz_in 57 (by decide +kernel) rfl, by decide +kernel, by decide⟩
theorem mi_X4_flatten : Cond.instanceMethod yX4_flatten ∈ pz_U := pz_in 651 (by decide +kernel) rfl
theorem ms_X4_flatten : Cond.selects RX4 yX4_flatten yX4_flatten ∈ pz_U := pz_in 652 (by decide +kernel) rfl
abbrev M_X4_lies : pz_M := (yX4_lies, cX4_lies, 5, (some .int))
theorem mf_X4_lies : pz_MF M_X4_lies 3 := ⟨pz_in 657 (by decide +kernel) rfl, pz_in 57 (by decide +kernel) rfl, by decide +kernel, by decide⟩
theorem mi_X4_lies : Cond.instanceMethod yX4_lies ∈ pz_U := pz_in 655 (by decide +kernel) rfl
theorem ms_X4_lies : Cond.selects RX4 yX4_lies yX4_lies ∈ pz_U := pz_in 656 (by decide +kernel) rfl
abbrev M_X4_addPaper : pz_M := (yX4_addPaper, cX4_addPaper, 4, (some .int))
theorem mf_X4_addPaper : pz_MF M_X4_addPaper 3 := ⟨pz_in 209 (by decide +kernel) rfl, pz_in 57 (by decide +kernel) rfl, by decide +kernel, by decide⟩
theorem mi_X4_addPaper : Cond.instanceMethod yX4_addPaper ∈ pz_U := pz_in 208 (by decide +kernel) rfl
theorem ms_X4_addPaper : Cond.selects RX4 yX4_addPaper yX4_addPaper ∈ pz_U := pz_in 0 (by decide +kernel) rfl
abbrev M_X4_find : pz_M := (yX4_find, cX4_find, 2, (some (.object "CreaseFlat$Paper")))
theorem mf_X4_find : pz_MF M_X4_find 1 := ⟨pz_in 362 (by decide +kernel) rfl, pz_in 57 (by decide +kernel) rfl, by decide +kernel, by decide⟩
theorem mi_X4_find : Cond.instanceMethod yX4_find ∈ pz_U := pz_in 361 (by decide +kernel) rfl
theorem ms_X4_find : Cond.selects RX4 yX4_find yX4_find ∈ pz_U := pz_in 8 (by decide +kernel) rfl
abbrev M_X4_has : pz_M := (yX4_has, cX4_has, 2, (some .boolean))
theorem mf_X4_has : pz_MF M_X4_has 2 := ⟨pz_in 409 (by decide +kernel) rfl, pz_in 57 (by decide +kernel) rfl, by decide +kernel, by decide⟩
theorem mt_X4_has : Cond.static yX4_has ∈ pz_U := pz_in 408 (by decide +kernel) rfl
abbrev M_X4_readOrder : pz_M := (yX4_readOrder, cX4_readOrder, 9, (some .boolean))
theorem mf_X4_readOrder : pz_MF M_X4_readOrder 2 := ⟨pz_in 496 (by decide +kernel) rfl, pz_in 57 (by decide +kernel) rfl, by decide +kernel, by decide⟩
theorem mi_X4_readOrder : Cond.instanceMethod yX4_readOrder ∈ pz_U := pz_in 495 (by decide +kernel) rfl
theorem ms_X4_readOrder : Cond.selects RX4 yX4_readOrder yX4_readOrder ∈ pz_U := pz_in 16 (by decide +kernel) rfl
abbrev M_X4_canBecome : pz_M := (yX4_canBecome, cX4_canBecome, 4, (some .boolean))
theorem mf_X4_canBecome : pz_MF M_X4_canBecome 3 := ⟨pz_in 526 (by decide +kernel) rfl, pz_in 57 (by decide +kernel) rfl, by decide +kernel, by decide⟩
theorem mi_X4_canBecome : Cond.instanceMethod yX4_canBecome ∈ pz_U := pz_in 525 (by decide +kernel) rfl
theorem ms_X4_canBecome : Cond.selects RX4 yX4_canBecome yX4_canBecome ∈ pz_U := pz_in 18 (by decide +kernel) rfl
abbrev M_X4_canLieBelow : pz_M := (yX4_canLieBelow, cX4_canLieBelow, 4, (some .boolean))
theorem mf_X4_canLieBelow : pz_MF M_X4_canLieBelow 3 := ⟨pz_in 535 (by decide +kernel) rfl, pz_in 57 (by decide +kernel) rfl, by decide +kernel, by decide⟩
theorem mi_X4_canLieBelow : Cond.instanceMethod yX4_canLieBelow ∈ pz_U := pz_in 534 (by decide +kernel) rfl
theorem ms_X4_canLieBelow : Cond.selects RX4 yX4_canLieBelow yX4_canLieBelow ∈ pz_U := pz_in 19 (by decide +kernel) rfl
abbrev M_X4_allowsSome : pz_M := (yX4_allowsSome, cX4_allowsSome, 3, (some .boolean))
theorem mf_X4_allowsSome : pz_MF M_X4_allowsSome 2 := ⟨pz_in 567 (by decide +kernel) rfl, pz_in 57 (by decide +kernel) rfl, by decide +kernel, by decide⟩
theorem mi_X4_allowsSome : Cond.instanceMethod yX4_allowsSome ∈ pz_U := pz_in 566 (by decide +kernel) rfl
theorem ms_X4_allowsSome : Cond.selects RX4 yX4_allowsSome yX4_allowsSome ∈ pz_U := pz_in 22 (by decide +kernel) rfl
abbrev M_X4_allowTheSame : pz_M := (yX4_allowTheSame, cX4_allowTheSame, 5, (some .boolean))
theorem mf_X4_allowTheSame : pz_MF M_X4_allowTheSame 2 := ⟨pz_in 544 (by decide +kernel) rfl, pz_in 57 (by decide +kernel) rfl, by decide +kernel, by decide⟩
theorem mi_X4_allowTheSame : Cond.instanceMethod yX4_allowTheSame ∈ pz_U := pz_in 543 (by decide +kernel) rfl
theorem ms_X4_allowTheSame : Cond.selects RX4 yX4_allowTheSame yX4_allowTheSame ∈ pz_U := pz_in 20 (by decide +kernel) rfl
abbrev M_X4_isNew : pz_M := (yX4_isNew, cX4_isNew, 5, (some .boolean))
theorem mf_X4_isNew : pz_MF M_X4_isNew 1 := ⟨pz_in 559 (by decide +kernel) rfl, pz_in 57 (by decide +kernel) rfl, by decide +kernel, by decide⟩
theorem mi_X4_isNew : Cond.instanceMethod yX4_isNew ∈ pz_U := pz_in 558 (by decide +kernel) rfl
theorem ms_X4_isNew : Cond.selects RX4 yX4_isNew yX4_isNew ∈ pz_U := pz_in 21 (by decide +kernel) rfl
abbrev M_X5_init : pz_M := (yX5_init, cX5_init, 1, none)
theorem mf_X5_init : pz_MF M_X5_init 0 := ⟨pz_in 663 (by decide +kernel) rfl, pz_in 61 (by decide +kernel) rfl, by decide +kernel, by decide⟩
theorem mi_X5_init : Cond.instanceMethod yX5_init ∈ pz_U := pz_in 662 (by decide +kernel) rfl
abbrev M_X5_lesser : pz_M := (yX5_lesser, cX5_lesser, 2, (some .int))
theorem mf_X5_lesser : pz_MF M_X5_lesser 2 := ⟨pz_in 849 (by decide +kernel) rfl, pz_in 61 (by decide +kernel) rfl, by decide +kernel, by decide⟩
theorem mt_X5_lesser : Cond.static yX5_lesser ∈ pz_U := pz_in 848 (by decide +kernel) rfl
abbrev M_X5_greater : pz_M := (yX5_greater, cX5_greater, 2, (some .int))
theorem mf_X5_greater : pz_MF M_X5_greater 2 := ⟨pz_in 852 (by decide +kernel) rfl, pz_in 61 (by decide +kernel) rfl, by decide +kernel, by decide⟩
theorem mt_X5_greater : Cond.static yX5_greater ∈ pz_U := pz_in 851 (by decide +kernel) rfl
abbrev M_X5_bits : pz_M := (yX5_bits, cX5_bits, 3, (some .int))
theorem mf_X5_bits : pz_MF M_X5_bits 1 := ⟨pz_in 972 (by decide +kernel) rfl, pz_in 61 (by decide +kernel) rfl, by decide +kernel, by decide⟩
theorem mt_X5_bits : Cond.static yX5_bits ∈ pz_U := pz_in 971 (by decide +kernel) rfl
abbrev M_X5_has : pz_M := (yX5_has, cX5_has, 2, (some .boolean))
theorem mf_X5_has : pz_MF M_X5_has 1 := ⟨pz_in 786 (by decide +kernel) rfl, pz_in 61 (by decide +kernel) rfl, by decide +kernel, by decide⟩
theorem mi_X5_has : Cond.instanceMethod yX5_has ∈ pz_U := pz_in 785 (by decide +kernel) rfl
theorem ms_X5_has : Cond.selects RX5 yX5_has yX5_has ∈ pz_U := pz_in 31 (by decide +kernel) rfl
abbrev M_X5_hasFace : pz_M := (yX5_hasFace, cX5_hasFace, 3, (some .boolean))
theorem mf_X5_hasFace : pz_MF M_X5_hasFace 2 := ⟨pz_in 782 (by decide +kernel) rfl, pz_in 61 (by decide +kernel) rfl, by decide +kernel, by decide⟩
theorem mi_X5_hasFace : Cond.instanceMethod yX5_hasFace ∈ pz_U := pz_in 781 (by decide +kernel) rfl
theorem ms_X5_hasFace : Cond.selects RX5 yX5_hasFace yX5_hasFace ∈ pz_U := pz_in 30 (by decide +kernel) rfl
abbrev M_X5_hasCrease : pz_M := (yX5_hasCrease, cX5_hasCrease, 3, (some .boolean))
theorem mf_X5_hasCrease : pz_MF M_X5_hasCrease 2 := ⟨pz_in 794 (by decide +kernel) rfl, pz_in 61 (by decide +kernel) rfl, by decide +kernel, by decide⟩
theorem mi_X5_hasCrease : Cond.instanceMethod yX5_hasCrease ∈ pz_U := pz_in 793 (by decide +kernel) rfl
theorem ms_X5_hasCrease : Cond.selects RX5 yX5_hasCrease yX5_hasCrease ∈ pz_U := pz_in 32 (by decide +kernel) rfl
abbrev M_X5_add : pz_M := (yX5_add, cX5_add, 5, (some .int))
theorem mf_X5_add : pz_MF M_X5_add 2 := ⟨pz_in 762 (by decide +kernel) rfl, pz_in 61 (by decide +kernel) rfl, by decide +kernel, by decide⟩
theorem mi_X5_add : Cond.instanceMethod yX5_add ∈ pz_U := pz_in 761 (by decide +kernel) rfl
theorem ms_X5_add : Cond.selects RX5 yX5_add yX5_add ∈ pz_U := pz_in 28 (by decide +kernel) rfl
abbrev M_X5_addCrease : pz_M := (yX5_addCrease, cX5_addCrease, 5, none)
theorem mf_X5_addCrease : pz_MF M_X5_addCrease 3 := ⟨pz_in 766 (by decide +kernel) rfl, pz_in 61 (by decide +kernel) rfl, by decide +kernel, by decide⟩
theorem mi_X5_addCrease : Cond.instanceMethod yX5_addCrease ∈ pz_U := pz_in 765 (by decide +kernel) rfl
theorem ms_X5_addCrease : Cond.selects RX5 yX5_addCrease yX5_addCrease ∈ pz_U := pz_in 29 (by decide +kernel) rfl
abbrev M_X5_strip : pz_M := (yX5_strip, cX5_strip, 4, (some .int))
theorem mf_X5_strip : pz_MF M_X5_strip 1 := ⟨pz_in 758 (by decide +kernel) rfl, pz_in 61 (by decide +kernel) rfl, by decide +kernel, by decide⟩
theorem mi_X5_strip : Cond.instanceMethod yX5_strip ∈ pz_U := pz_in 756 (by decide +kernel) rfl
theorem ms_X5_strip : Cond.selects RX5 yX5_strip yX5_strip ∈ pz_U := pz_in 757 (by decide +kernel) rfl
abbrev M_X5_corner : pz_M := (yX5_corner, cX5_corner, 4, (some .int))
theorem mf_X5_corner : pz_MF M_X5_corner 1 := ⟨pz_in 770 (by decide +kernel) rfl, pz_in 61 (by decide +kernel) rfl, by decide +kernel, by decide⟩
theorem mi_X5_corner : Cond.instanceMethod yX5_corner ∈ pz_U := pz_in 768 (by decide +kernel) rfl
theorem ms_X5_corner : Cond.selects RX5 yX5_corner yX5_corner ∈ pz_U := pz_in 769 (by decide +kernel) rfl
abbrev M_X5_map : pz_M := (yX5_map, cX5_map, 6, (some .int))
theorem mf_X5_map : pz_MF M_X5_map 2 := ⟨pz_in 774 (by decide +kernel) rfl, pz_in 61 (by decide +kernel) rfl, by decide +kernel, by decide⟩
theorem mi_X5_map : Cond.instanceMethod yX5_map ∈ pz_U := pz_in 772 (by decide +kernel) rfl
theorem ms_X5_map : Cond.selects RX5 yX5_map yX5_map ∈ pz_U := pz_in 773 (by decide +kernel) rfl
abbrev M_X5_length : pz_M := (yX5_length, cX5_length, 5, (some .int))
theorem mf_X5_length : pz_MF M_X5_length 3 := ⟨pz_in 778 (by decide +kernel) rfl, pz_in 61 (by decide +kernel) rfl, by decide +kernel, by decide⟩
theorem mi_X5_length : Cond.instanceMethod yX5_length ∈ pz_U := pz_in 776 (by decide +kernel) rfl
theorem ms_X5_length : Cond.selects RX5 yX5_length yX5_length ∈ pz_U := pz_in 777 (by decide +kernel) rfl
abbrev M_X5_mark : pz_M := (yX5_mark, cX5_mark, 5, (some .int))
theorem mf_X5_mark : pz_MF M_X5_mark 3 := ⟨pz_in 790 (by decide +kernel) rfl, pz_in 61 (by decide +kernel) rfl, by decide +kernel, by decide⟩
theorem mi_X5_mark : Cond.instanceMethod yX5_mark ∈ pz_U := pz_in 788 (by decide +kernel) rfl
theorem ms_X5_mark : Cond.selects RX5 yX5_mark yX5_mark ∈ pz_U := pz_in 789 (by decide +kernel) rfl
abbrev M_X5_uneven : pz_M := (yX5_uneven, cX5_uneven, 4, (some .int))
theorem mf_X5_uneven : pz_MF M_X5_uneven 1 := ⟨pz_in 806 (by decide +kernel) rfl, pz_in 61 (by decide +kernel) rfl, by decide +kernel, by decide⟩
theorem mi_X5_uneven : Cond.instanceMethod yX5_uneven ∈ pz_U := pz_in 805 (by decide +kernel) rfl
theorem ms_X5_uneven : Cond.selects RX5 yX5_uneven yX5_uneven ∈ pz_U := pz_in 34 (by decide +kernel) rfl
abbrev M_X5_marked : pz_M := (yX5_marked, cX5_marked, 5, (some .int))
theorem mf_X5_marked : pz_MF M_X5_marked 2 := ⟨pz_in 802 (by decide +kernel) rfl, pz_in 61 (by decide +kernel) rfl, by decide +kernel, by decide⟩
theorem mi_X5_marked : Cond.instanceMethod yX5_marked ∈ pz_U := pz_in 801 (by decide +kernel) rfl
theorem ms_X5_marked : Cond.selects RX5 yX5_marked yX5_marked ∈ pz_U := pz_in 33 (by decide +kernel) rfl
abbrev M_X5_about : pz_M := (yX5_about, cX5_about, 3, (some .int))
theorem mf_X5_about : pz_MF M_X5_about 2 := ⟨pz_in 798 (by decide +kernel) rfl, pz_in 61 (by decide +kernel) rfl, by decide +kernel, by decide⟩
theorem mi_X5_about : Cond.instanceMethod yX5_about ∈ pz_U := pz_in 796 (by decide +kernel) rfl
theorem ms_X5_about : Cond.selects RX5 yX5_about yX5_about ∈ pz_U := pz_in 797 (by decide +kernel) rfl
abbrev M_X5_begins : pz_M := (yX5_begins, cX5_begins, 5, (some .int))
theorem mf_X5_begins : pz_MF M_X5_begins 2 := ⟨pz_in 818 (by decide +kernel) rfl, pz_in 61 (by decide +kernel) rfl, by decide +kernel, by decide⟩
theorem mi_X5_begins : Cond.instanceMethod yX5_begins ∈ pz_U := pz_in 817 (by decide +kernel) rfl
theorem ms_X5_begins : Cond.selects RX5 yX5_begins yX5_begins ∈ pz_U := pz_in 36 (by decide +kernel) rfl
abbrev M_X5_placeOf : pz_M := (yX5_placeOf, cX5_placeOf, 6, (some .int))
theorem mf_X5_placeOf : pz_MF M_X5_placeOf 2 := ⟨pz_in 814 (by decide +kernel) rfl, pz_in 61 (by decide +kernel) rfl, by decide +kernel, by decide⟩
theorem mi_X5_placeOf : Cond.instanceMethod yX5_placeOf ∈ pz_U := pz_in 813 (by decide +kernel) rfl
theorem ms_X5_placeOf : Cond.selects RX5 yX5_placeOf yX5_placeOf ∈ pz_U := pz_in 35 (by decide +kernel) rfl
abbrev M_X5_crease : pz_M := (yX5_crease, cX5_crease, 5, (some .int))
theorem mf_X5_crease : pz_MF M_X5_crease 3 := ⟨pz_in 810 (by decide +kernel) rfl, pz_in 61 (by decide +kernel) rfl, by decide +kernel, by decide⟩
theorem mi_X5_crease : Cond.instanceMethod yX5_crease ∈ pz_U := pz_in 808 (by decide +kernel) rfl
theorem ms_X5_crease : Cond.selects RX5 yX5_crease yX5_crease ∈ pz_U := pz_in 809 (by decide +kernel) rfl
abbrev M_X5_isUp : pz_M := (yX5_isUp, cX5_isUp, 3, (some .boolean))
theorem mf_X5_isUp : pz_MF M_X5_isUp 2 := ⟨pz_in 846 (by decide +kernel) rfl, pz_in 61 (by decide +kernel) rfl, by decide +kernel, by decide⟩
theorem mi_X5_isUp : Cond.instanceMethod yX5_isUp ∈ pz_U := pz_in 845 (by decide +kernel) rfl
theorem ms_X5_isUp : Cond.selects RX5 yX5_isUp yX5_isUp ∈ pz_U := pz_in 42 (by decide +kernel) rfl
abbrev M_X5_begin : pz_M := (yX5_begin, cX5_begin, 3, none)
theorem mf_X5_begin : pz_MF M_X5_begin 1 := ⟨pz_in 826 (by decide +kernel) rfl, pz_in 61 (by decide +kernel) rfl, by decide +kernel, by decide⟩
theorem mi_X5_begin : Cond.instanceMethod yX5_begin ∈ pz_U := pz_in 825 (by decide +kernel) rfl
theorem ms_X5_begin : Cond.selects RX5 yX5_begin yX5_begin ∈ pz_U := pz_in 37 (by decide +kernel) rfl
abbrev M_X5_isWithin : pz_M := (yX5_isWithin, cX5_isWithin, 5, (some .boolean))
theorem mf_X5_isWithin : pz_MF M_X5_isWithin 2 := ⟨pz_in 864 (by decide +kernel) rfl, pz_in 61 (by decide +kernel) rfl, by decide +kernel, by decide⟩
theorem mi_X5_isWithin : Cond.instanceMethod yX5_isWithin ∈ pz_U := pz_in 863 (by decide +kernel) rfl
theorem ms_X5_isWithin : Cond.selects RX5 yX5_isWithin yX5_isWithin ∈ pz_U := pz_in 45 (by decide +kernel) rfl
abbrev M_X5_isOneSide : pz_M := (yX5_isOneSide, cX5_isOneSide, 3, (some .boolean))
theorem mf_X5_isOneSide : pz_MF M_X5_isOneSide 2 := ⟨pz_in 856 (by decide +kernel) rfl, pz_in 61 (by decide +kernel) rfl, by decide +kernel, by decide⟩
theorem mi_X5_isOneSide : Cond.instanceMethod yX5_isOneSide ∈ pz_U := pz_in 855 (by decide +kernel) rfl
theorem ms_X5_isOneSide : Cond.selects RX5 yX5_isOneSide yX5_isOneSide ∈ pz_U := pz_in 43 (by decide +kernel) rfl
abbrev M_X5_isFour : pz_M := (yX5_isFour, cX5_isFour, 7, (some .boolean))
theorem mf_X5_isFour : pz_MF M_X5_isFour 2 := ⟨pz_in 860 (by decide +kernel) rfl, pz_in 61 (by decide +kernel) rfl, by decide +kernel, by decide⟩
theorem mi_X5_isFour : Cond.instanceMethod yX5_isFour ∈ pz_U := pz_in 859 (by decide +kernel) rfl
theorem ms_X5_isFour : Cond.selects RX5 yX5_isFour yX5_isFour ∈ pz_U := pz_in 44 (by decide +kernel) rfl
abbrev M_X5_markIn : pz_M := (yX5_markIn, cX5_markIn, 4, (some .int))
theorem mf_X5_markIn : pz_MF M_X5_markIn 1 := ⟨pz_in 842 (by decide +kernel) rfl, pz_in 61 (by decide +kernel) rfl, by decide +kernel, by decide⟩
theorem mi_X5_markIn : Cond.instanceMethod yX5_markIn ∈ pz_U := pz_in 841 (by decide +kernel) rfl
theorem ms_X5_markIn : Cond.selects RX5 yX5_markIn yX5_markIn ∈ pz_U := pz_in 41 (by decide +kernel) rfl
abbrev M_X5_isFine : pz_M := (yX5_isFine, cX5_isFine, 7, (some .boolean))
theorem mf_X5_isFine : pz_MF M_X5_isFine 1 := ⟨pz_in 834 (by decide +kernel) rfl, pz_in 61 (by decide +kernel) rfl, by decide +kernel, by decide⟩
theorem mi_X5_isFine : Cond.instanceMethod yX5_isFine ∈ pz_U := pz_in 833 (by decide +kernel) rfl
theorem ms_X5_isFine : Cond.selects RX5 yX5_isFine yX5_isFine ∈ pz_U := pz_in 39 (by decide +kernel) rfl
abbrev M_X5_isClosed : pz_M := (yX5_isClosed, cX5_isClosed, 12, (some .boolean))
theorem mf_X5_isClosed : pz_MF M_X5_isClosed 3 := ⟨pz_in 838 (by decide +kernel) rfl, pz_in 61 (by decide +kernel) rfl, by decide +kernel, by decide⟩
theorem mi_X5_isClosed : Cond.instanceMethod yX5_isClosed ∈ pz_U := pz_in 837 (by decide +kernel) rfl
theorem ms_X5_isClosed : Cond.selects RX5 yX5_isClosed yX5_isClosed ∈ pz_U := pz_in 40 (by decide +kernel) rfl
abbrev M_X5_next : pz_M := (yX5_next, cX5_next, 5, (some .boolean))
theorem mf_X5_next : pz_MF M_X5_next 0 := ⟨pz_in 830 (by decide +kernel) rfl, pz_in 61 (by decide +kernel) rfl, by decide +kernel, by decide⟩
theorem mi_X5_next : Cond.instanceMethod yX5_next ∈ pz_U := pz_in 829 (by decide +kernel) rfl
theorem ms_X5_next : Cond.selects RX5 yX5_next yX5_next ∈ pz_U := pz_in 38 (by decide +kernel) rfl
abbrev M_X5_number : pz_M := (yX5_number, cX5_number, 4, (some .long))
theorem mf_X5_number : pz_MF M_X5_number 0 := ⟨pz_in 885 (by decide +kernel) rfl, pz_in 61 (by decide +kernel) rfl, by decide +kernel, by decide⟩
theorem mi_X5_number : Cond.instanceMethod yX5_number ∈ pz_U := pz_in 884 (by decide +kernel) rfl
theorem ms_X5_number : Cond.selects RX5 yX5_number yX5_number ∈ pz_U := pz_in 46 (by decide +kernel) rfl
abbrev M_X5_judge : pz_M := (yX5_judge, cX5_judge, 3, (some .int))
theorem mf_X5_judge : pz_MF M_X5_judge 1 := ⟨pz_in 822 (by decide +kernel) rfl, pz_in 61 (by decide +kernel) rfl, by decide +kernel, by decide⟩
theorem mi_X5_judge : Cond.instanceMethod yX5_judge ∈ pz_U := pz_in 820 (by decide +kernel) rfl
theorem ms_X5_judge : Cond.selects RX5 yX5_judge yX5_judge ∈ pz_U := pz_in 821 (by decide +kernel) rfl
abbrev M_X5_layer : pz_M := (yX5_layer, cX5_layer, 2, (some .int))
theorem mf_X5_layer : pz_MF M_X5_layer 1 := ⟨pz_in 868 (by decide +kernel) rfl, pz_in 61 (by decide +kernel) rfl, by decide +kernel, by decide⟩
theorem mi_X5_layer : Cond.instanceMethod yX5_layer ∈ pz_U := pz_in 866 (by decide +kernel) rfl
theorem ms_X5_layer : Cond.selects RX5 yX5_layer yX5_layer ∈ pz_U := pz_in 867 (by decide +kernel) rfl
abbrev M_X5_turned : pz_M := (yX5_turned, cX5_turned, 3, (some .int))
theorem mf_X5_turned : pz_MF M_X5_turned 1 := ⟨pz_in 872 (by decide +kernel) rfl, pz_in 61 (by decide +kernel) rfl, by decide +kernel, by decide⟩
theorem mi_X5_turned : Cond.instanceMethod yX5_turned ∈ pz_U := pz_in 870 (by decide +kernel) rfl
theorem ms_X5_turned : Cond.selects RX5 yX5_turned yX5_turned ∈ pz_U := pz_in 871 (by decide +kernel) rfl
abbrev M_X5_orders : pz_M := (yX5_orders, cX5_orders, 3, (some .int))
theorem mf_X5_orders : pz_MF M_X5_orders 1 := ⟨pz_in 876 (by decide +kernel) rfl, pz_in 61 (by decide +kernel) rfl, by decide +kernel, by decide⟩
theorem mi_X5_orders : Cond.instanceMethod yX5_orders ∈ pz_U := pz_in 874 (by decide +kernel) rfl
theorem ms_X5_orders : Cond.selects RX5 yX5_orders yX5_orders ∈ pz_U := pz_in 875 (by decide +kernel) rfl
abbrev M_X5_order : pz_M := (yX5_order, cX5_order, 4, (some .long))
theorem mf_X5_order : pz_MF M_X5_order 2 := ⟨pz_in 880 (by decide +kernel) rfl, pz_in 61 (by decide +kernel) rfl, by decide +kernel, by decide⟩
theorem mi_X5_order : Cond.instanceMethod yX5_order ∈ pz_U := pz_in 878 (by decide +kernel) rfl
theorem ms_X5_order : Cond.selects RX5 yX5_order yX5_order ∈ pz_U := pz_in 879 (by decide +kernel) rfl
abbrev M_X5_check : pz_M := (yX5_check, cX5_check, 8, (some .int))
theorem mf_X5_check : pz_MF M_X5_check 2 := ⟨pz_in 891 (by decide +kernel) rfl, pz_in 61 (by decide +kernel) rfl, by decide +kernel, by decide⟩
theorem mi_X5_check : Cond.instanceMethod yX5_check ∈ pz_U := pz_in 889 (by decide +kernel) rfl
theorem ms_X5_check : Cond.selects RX5 yX5_check yX5_check ∈ pz_U := pz_in 890 (by decide +kernel) rfl
abbrev M_X5_isBetween : pz_M := (yX5_isBetween, cX5_isBetween, 5, (some .boolean))
theorem mf_X5_isBetween : pz_MF M_X5_isBetween 2 := ⟨pz_in 896 (by decide +kernel) rfl, pz_in 61 (by decide +kernel) rfl, by decide +kernel, by decide⟩
theorem mi_X5_isBetween : Cond.instanceMethod yX5_isBetween ∈ pz_U := pz_in 895 (by decide +kernel) rfl
theorem ms_X5_isBetween : Cond.selects RX5 yX5_isBetween yX5_isBetween ∈ pz_U := pz_in 47 (by decide +kernel) rfl
abbrev M_X5_forced : pz_M := (yX5_forced, cX5_forced, 4, (some .int))
theorem mf_X5_forced : pz_MF M_X5_forced 2 := ⟨pz_in 900 (by decide +kernel) rfl, pz_in 61 (by decide +kernel) rfl, by decide +kernel, by decide⟩
theorem mi_X5_forced : Cond.instanceMethod yX5_forced ∈ pz_U := pz_in 898 (by decide +kernel) rfl
theorem ms_X5_forced : Cond.selects RX5 yX5_forced yX5_forced ∈ pz_U := pz_in 899 (by decide +kernel) rfl
abbrev M_X5_above : pz_M := (yX5_above, cX5_above, 6, (some .int))
theorem mf_X5_above : pz_MF M_X5_above 3 := ⟨pz_in 904 (by decide +kernel) rfl, pz_in 61 (by decide +kernel) rfl, by decide +kernel, by decide⟩
theorem mi_X5_above : Cond.instanceMethod yX5_above ∈ pz_U := pz_in 902 (by decide +kernel) rfl
theorem ms_X5_above : Cond.selects RX5 yX5_above yX5_above ∈ pz_U := pz_in 903 (by decide +kernel) rfl
abbrev M_X5_alike : pz_M := (yX5_alike, cX5_alike, 5, (some .int))
theorem mf_X5_alike : pz_MF M_X5_alike 2 := ⟨pz_in 908 (by decide +kernel) rfl, pz_in 61 (by decide +kernel) rfl, by decide +kernel, by decide⟩
theorem mi_X5_alike : Cond.instanceMethod yX5_alike ∈ pz_U := pz_in 906 (by decide +kernel) rfl
theorem ms_X5_alike : Cond.selects RX5 yX5_alike yX5_alike ∈ pz_U := pz_in 907 (by decide +kernel) rfl
abbrev M_X5_foldings : pz_M := (yX5_foldings, cX5_foldings, 5, (some .int))
theorem mf_X5_foldings : pz_MF M_X5_foldings 1 := ⟨pz_in 914 (by decide +kernel) rfl, pz_in 61 (by decide +kernel) rfl, by decide +kernel, by decide⟩
theorem mi_X5_foldings : Cond.instanceMethod yX5_foldings ∈ pz_U := pz_in 912 (by decide +kernel) rfl
theorem ms_X5_foldings : Cond.selects RX5 yX5_foldings yX5_foldings ∈ pz_U := pz_in 913 (by decide +kernel) rfl
abbrev M_X5_isAllowed : pz_M := (yX5_isAllowed, cX5_isAllowed, 2, (some .boolean))
theorem mf_X5_isAllowed : pz_MF M_X5_isAllowed 1 := ⟨pz_in 922 (by decide +kernel) rfl, pz_in 61 (by decide +kernel) rfl, by decide +kernel, by decide⟩
theorem mi_X5_isAllowed : Cond.instanceMethod yX5_isAllowed ∈ pz_U := pz_in 921 (by decide +kernel) rfl
theorem ms_X5_isAllowed : Cond.selects RX5 yX5_isAllowed yX5_isAllowed ∈ pz_U := pz_in 48 (by decide +kernel) rfl
abbrev M_X5_clash : pz_M := (yX5_clash, cX5_clash, 5, (some .int))
theorem mf_X5_clash : pz_MF M_X5_clash 1 := ⟨pz_in 918 (by decide +kernel) rfl, pz_in 61 (by decide +kernel) rfl, by decide +kernel, by decide⟩
theorem mi_X5_clash : Cond.instanceMethod yX5_clash ∈ pz_U := pz_in 916 (by decide +kernel) rfl
theorem ms_X5_clash : Cond.selects RX5 yX5_clash yX5_clash ∈ pz_U := pz_in 917 (by decide +kernel) rfl
abbrev M_X5_inClash : pz_M := (yX5_inClash, cX5_inClash, 2, (some .int))
theorem mf_X5_inClash : pz_MF M_X5_inClash 1 := ⟨pz_in 926 (by decide +kernel) rfl, pz_in 61 (by decide +kernel) rfl, by decide +kernel, by decide⟩
theorem mi_X5_inClash : Cond.instanceMethod yX5_inClash ∈ pz_U := pz_in 924 (by decide +kernel) rfl
theorem ms_X5_inClash : Cond.selects RX5 yX5_inClash yX5_inClash ∈ pz_U := pz_in 925 (by decide +kernel) rfl
abbrev M_X5_gapsOf : pz_M := (yX5_gapsOf, cX5_gapsOf, 3, (some .int))
theorem mf_X5_gapsOf : pz_MF M_X5_gapsOf 2 := ⟨pz_in 934 (by decide +kernel) rfl, pz_in 61 (by decide +kernel) rfl, by decide +kernel, by decide⟩
theorem mi_X5_gapsOf : Cond.instanceMethod yX5_gapsOf ∈ pz_U := pz_in 933 (by decide +kernel) rfl
theorem ms_X5_gapsOf : Cond.selects RX5 yX5_gapsOf yX5_gapsOf ∈ pz_U := pz_in 49 (by decide +kernel) rfl
abbrev M_X5_lengthOf : pz_M := (yX5_lengthOf, cX5_lengthOf, 3, (some .int))
theorem mf_X5_lengthOf : pz_MF M_X5_lengthOf 2 := ⟨pz_in 953 (by decide +kernel) rfl, pz_in 61 (by decide +kernel) rfl, by decide +kernel, by decide⟩
theorem mi_X5_lengthOf : Cond.instanceMethod yX5_lengthOf ∈ pz_U := pz_in 952 (by decide +kernel) rfl
theorem ms_X5_lengthOf : Cond.selects RX5 yX5_lengthOf yX5_lengthOf ∈ pz_U := pz_in 53 (by decide +kernel) rfl
abbrev M_X5_goesUp : pz_M := (yX5_goesUp, cX5_goesUp, 4, (some .boolean))
theorem mf_X5_goesUp : pz_MF M_X5_goesUp 2 := ⟨pz_in 949 (by decide +kernel) rfl, pz_in 61 (by decide +kernel) rfl, by decide +kernel, by decide⟩
theorem mt_X5_goesUp : Cond.static yX5_goesUp ∈ pz_U := pz_in 948 (by decide +kernel) rfl
abbrev M_X5_liesAt : pz_M := (yX5_liesAt, cX5_liesAt, 6, (some .int))
theorem mf_X5_liesAt : pz_MF M_X5_liesAt 3 := ⟨pz_in 946 (by decide +kernel) rfl, pz_in 61 (by decide +kernel) rfl, by decide +kernel, by decide⟩
theorem mi_X5_liesAt : Cond.instanceMethod yX5_liesAt ∈ pz_U := pz_in 945 (by decide +kernel) rfl
theorem ms_X5_liesAt : Cond.selects RX5 yX5_liesAt yX5_liesAt ∈ pz_U := pz_in 52 (by decide +kernel) rfl
abbrev M_X5_done : pz_M := (yX5_done, cX5_done, 18, (some .int))
theorem mf_X5_done : pz_MF M_X5_done 4 := ⟨pz_in 957 (by decide +kernel) rfl, pz_in 61 (by decide +kernel) rfl, by decide +kernel, by decide⟩
theorem mi_X5_done : Cond.instanceMethod yX5_done ∈ pz_U := pz_in 956 (by decide +kernel) rfl
theorem ms_X5_done : Cond.selects RX5 yX5_done yX5_done ∈ pz_U := pz_in 54 (by decide +kernel) rfl
abbrev M_X5_stateOf : pz_M := (yX5_stateOf, cX5_stateOf, 3, (some .int))
theorem mf_X5_stateOf : pz_MF M_X5_stateOf 2 := ⟨pz_in 938 (by decide +kernel) rfl, pz_in 61 (by decide +kernel) rfl, by decide +kernel, by decide⟩
theorem mi_X5_stateOf : Cond.instanceMethod yX5_stateOf ∈ pz_U := pz_in 937 (by decide +kernel) rfl
theorem ms_X5_stateOf : Cond.selects RX5 yX5_stateOf yX5_stateOf ∈ pz_U := pz_in 50 (by decide +kernel) rfl
abbrev M_X5_simple : pz_M := (yX5_simple, cX5_simple, 9, (some .int))
theorem mf_X5_simple : pz_MF M_X5_simple 1 := ⟨pz_in 930 (by decide +kernel) rfl, pz_in 61 (by decide +kernel) rfl, by decide +kernel, by decide⟩
theorem mi_X5_simple : Cond.instanceMethod yX5_simple ∈ pz_U := pz_in 928 (by decide +kernel) rfl
theorem ms_X5_simple : Cond.selects RX5 yX5_simple yX5_simple ∈ pz_U := pz_in 929 (by decide +kernel) rfl
abbrev M_X5_best : pz_M := (yX5_best, cX5_best, 16, (some .int))
theorem mf_X5_best : pz_MF M_X5_best 6 := ⟨pz_in 942 (by decide +kernel) rfl, pz_in 61 (by decide +kernel) rfl, by decide +kernel, by decide⟩
theorem mi_X5_best : Cond.instanceMethod yX5_best ∈ pz_U := pz_in 941 (by decide +kernel) rfl
theorem ms_X5_best : Cond.selects RX5 yX5_best yX5_best ∈ pz_U := pz_in 51 (by decide +kernel) rfl
abbrev M_X5_step : pz_M := (yX5_step, cX5_step, 2, (some .int))
theorem mf_X5_step : pz_MF M_X5_step 1 := ⟨pz_in 961 (by decide +kernel) rfl, pz_in 61 (by decide +kernel) rfl, by decide +kernel, by decide⟩
theorem mi_X5_step : Cond.instanceMethod yX5_step ∈ pz_U := pz_in 959 (by decide +kernel) rfl
theorem ms_X5_step : Cond.selects RX5 yX5_step yX5_step ∈ pz_U := pz_in 960 (by decide +kernel) rfl
abbrev M_X5_creasesIn : pz_M := (yX5_creasesIn, cX5_creasesIn, 4, (some .int))
theorem mf_X5_creasesIn : pz_MF M_X5_creasesIn 3 := ⟨pz_in 969 (by decide +kernel) rfl, pz_in 61 (by decide +kernel) rfl, by decide +kernel, by decide⟩
theorem mi_X5_creasesIn : Cond.instanceMethod yX5_creasesIn ∈ pz_U := pz_in 968 (by decide +kernel) rfl
theorem ms_X5_creasesIn : Cond.selects RX5 yX5_creasesIn yX5_creasesIn ∈ pz_U := pz_in 55 (by decide +kernel) rfl
abbrev M_X5_fold : pz_M := (yX5_fold, cX5_fold, 5, (some .int))
theorem mf_X5_fold : pz_MF M_X5_fold 2 := ⟨pz_in 965 (by decide +kernel) rfl, pz_in 61 (by decide +kernel) rfl, by decide +kernel, by decide⟩
theorem mi_X5_fold : Cond.instanceMethod yX5_fold ∈ pz_U := pz_in 963 (by decide +kernel) rfl
theorem ms_X5_fold : Cond.selects RX5 yX5_fold yX5_fold ∈ pz_U := pz_in 964 (by decide +kernel) rfl
abbrev M_X5_flatten : pz_M := (yX5_flatten, cX5_flatten, 3, (some .int))
theorem mf_X5_flatten : pz_MF M_X5_flatten 1 := ⟨pz_in 976 (by decide +kernel) rfl, pz_in 61 (by decide +kernel) rfl, by decide +kernel, by decide⟩
theorem mi_X5_flatten : Cond.instanceMethod yX5_flatten ∈ pz_U := pz_in 974 (by decide +kernel) rfl
theorem ms_X5_flatten : Cond.selects RX5 yX5_flatten yX5_flatten ∈ pz_U := pz_in 975 (by decide +kernel) rfl
abbrev M_X5_lies : pz_M := (yX5_lies, cX5_lies, 6, (some .int))
theorem mf_X5_lies : pz_MF M_X5_lies 3 := ⟨pz_in 980 (by decide +kernel) rfl, pz_in 61 (by decide +kernel) rfl, by decide +kernel, by decide⟩
theorem mi_X5_lies : Cond.instanceMethod yX5_lies ∈ pz_U := pz_in 978 (by decide +kernel) rfl
theorem ms_X5_lies : Cond.selects RX5 yX5_lies yX5_lies ∈ pz_U := pz_in 979 (by decide +kernel) rfl
abbrev M_J6_bitCount_0f7a4 : pz_M := (yJ6_bitCount_0f7a4, cJ6_bitCount_0f7a4, 1, (some .int))
theorem mf_J6_bitCount_0f7a4 : pz_MF M_J6_bitCount_0f7a4 1 := ⟨pz_in 386 (by decide +kernel) rfl, pz_in 65 (by decide +kernel) rfl, by decide +kernel, by decide⟩
theorem mt_J6_bitCount_0f7a4 : Cond.static yJ6_bitCount_0f7a4 ∈ pz_U := pz_in 385 (by decide +kernel) rfl
abbrev M_J9_max_7cf53 : pz_M := (yJ9_max_7cf53, cJ9_max_7cf53, 2, (some .int))
theorem mf_J9_max_7cf53 : pz_MF M_J9_max_7cf53 2 := ⟨pz_in 250 (by decide +kernel) rfl, pz_in 64 (by decide +kernel) rfl, by decide +kernel, by decide⟩
theorem mt_J9_max_7cf53 : Cond.static yJ9_max_7cf53 ∈ pz_U := pz_in 249 (by decide +kernel) rfl
abbrev M_J9_min_7cf53 : pz_M := (yJ9_min_7cf53, cJ9_min_7cf53, 2, (some .int))
theorem mf_J9_min_7cf53 : pz_MF M_J9_min_7cf53 2 := ⟨pz_in 247 (by decide +kernel) rfl, pz_in 64 (by decide +kernel) rfl, by decide +kernel, by decide⟩
theorem mt_J9_min_7cf53 : Cond.static yJ9_min_7cf53 ∈ pz_U := pz_in 246 (by decide +kernel) rfl
abbrev M_J7_fill_d0a16 : pz_M := (yJ7_fill_d0a16, cJ7_fill_d0a16, 5, none)
theorem mf_J7_fill_d0a16 : pz_MF M_J7_fill_d0a16 2 := ⟨pz_in 551 (by decide +kernel) rfl, pz_in 63 (by decide +kernel) rfl, by decide +kernel, by decide⟩
theorem mt_J7_fill_d0a16 : Cond.static yJ7_fill_d0a16 ∈ pz_U := pz_in 550 (by decide +kernel) rfl
abbrev M_J7_fill_53178 : pz_M := (yJ7_fill_53178, cJ7_fill_53178, 4, none)
theorem mf_J7_fill_53178 : pz_MF M_J7_fill_53178 2 := ⟨pz_in 217 (by decide +kernel) rfl, pz_in 63 (by decide +kernel) rfl, by decide +kernel, by decide⟩
theorem mt_J7_fill_53178 : Cond.static yJ7_fill_53178 ∈ pz_U := pz_in 216 (by decide +kernel) rfl
theorem ml_L_9 : Cond.methodLink RL 9 yX4_init ∈ pz_U := pz_in 69 (by decide +kernel) rfl
theorem ml_X4_1 : Cond.methodLink RX4 1 objectInit ∈ pz_U := pz_in 72 (by decide +kernel) rfl
theorem ml_X4_21 : (RX4, 21, yX2_init, "CreaseFlat") ∈ pz_NM := by decide +kernel
theorem ml_X2_3 : Cond.methodLink RX2 3 objectInit ∈ pz_U := pz_in 82 (by decide +kernel) rfl
theorem ml_X4_55 : (RX4, 55, yX0_init, "CreaseFlat") ∈ pz_NM := by decide +kernel
theorem ml_X0_3 : Cond.methodLink RX0 3 objectInit ∈ pz_U := pz_in 122 (by decide +kernel) rfl
theorem ml_X4_62 : (RX4, 62, yX3_init, "CreaseFlat") ∈ pz_NM := by decide +kernel
theorem ml_X3_3 : Cond.methodLink RX3 3 objectInit ∈ pz_U := pz_in 144 (by decide +kernel) rfl
theorem ml_L_13 : Cond.methodLink RL 13 yX4_strip ∈ pz_U := pz_in 202 (by decide +kernel) rfl
theorem ml_X4_73 : Cond.methodLink RX4 73 yX4_addPaper ∈ pz_U := pz_in 206 (by decide +kernel) rfl
theorem ml_X4_252 : Cond.methodLink RX4 252 yX1_init ∈ pz_U := pz_in 211 (by decide +kernel) rfl
theorem ml_X1_3 : Cond.methodLink RX1 3 objectInit ∈ pz_U := pz_in 214 (by decide +kernel) rfl
theorem ml_X1_67 : Cond.methodLink RX1 67 yJ7_fill_53178 ∈ pz_U := pz_in 215 (by decide +kernel) rfl
theorem ml_X1_73 : Cond.methodLink RX1 73 yX1_joinFaces ∈ pz_U := pz_in 218 (by decide +kernel) rfl
theorem ml_X1_79 : Cond.methodLink RX1 79 yX1_join ∈ pz_U := pz_in 222 (by decide +kernel) rfl
theorem ml_X1_76 : Cond.methodLink RX1 76 yX1_measure ∈ pz_U := pz_in 226 (by decide +kernel) rfl
theorem ml_X1_83 : Cond.methodLink RX1 83 yX1_isFrontUp ∈ pz_U := pz_in 230 (by decide +kernel) rfl
theorem ml_X1_87 : Cond.methodLink RX1 87 yX1_sideOf ∈ pz_U := pz_in 234 (by decide +kernel) rfl
theorem ml_X1_91 : Cond.methodLink RX1 91 yX1_facesOver ∈ pz_U := pz_in 238 (by decide +kernel) rfl
theorem ml_X1_97 : Cond.methodLink RX1 97 yX1_isBetween ∈ pz_U := pz_in 242 (by decide +kernel) rfl
theorem ml_X1_119 : Cond.methodLink RX1 119 yJ9_min_7cf53 ∈ pz_U := pz_in 245 (by decide +kernel) rfl
theorem ml_X1_125 : Cond.methodLink RX1 125 yJ9_max_7cf53 ∈ pz_U := pz_in 248 (by decide +kernel) rfl
theorem ml_X1_94 : Cond.methodLink RX1 94 yX1_rivalsOf ∈ pz_U := pz_in 251 (by decide +kernel) rfl
theorem ml_X1_101 : Cond.methodLink RX1 101 yX1_onOneSide ∈ pz_U := pz_in 255 (by decide +kernel) rfl
theorem ml_X1_105 : Cond.methodLink RX1 105 yX1_haveFourFaces ∈ pz_U := pz_in 259 (by decide +kernel) rfl
theorem ml_L_18 : Cond.methodLink RL 18 yX4_corner ∈ pz_U := pz_in 347 (by decide +kernel) rfl
theorem ml_L_22 : Cond.methodLink RL 22 yX4_map ∈ pz_U := pz_in 351 (by decide +kernel) rfl
theorem ml_L_27 : Cond.methodLink RL 27 yX4_length ∈ pz_U := pz_in 355 (by decide +kernel) rfl
theorem ml_X4_77 : Cond.methodLink RX4 77 yX4_find ∈ pz_U := pz_in 359 (by decide +kernel) rfl
theorem ml_X4_81 : Cond.methodLink RX4 81 yX1_hasFace ∈ pz_U := pz_in 363 (by decide +kernel) rfl
theorem ml_X4_91 : Cond.methodLink RX4 91 yX1_measure ∈ pz_U := pz_in 367 (by decide +kernel) rfl
theorem ml_L_32 : Cond.methodLink RL 32 yX4_mark ∈ pz_U := pz_in 368 (by decide +kernel) rfl
theorem ml_X4_94 : Cond.methodLink RX4 94 yX1_hasCrease ∈ pz_U := pz_in 372 (by decide +kernel) rfl
theorem ml_L_36 : Cond.methodLink RL 36 yX4_about ∈ pz_U := pz_in 376 (by decide +kernel) rfl
theorem ml_X4_106 : Cond.methodLink RX4 106 yX1_marked ∈ pz_U := pz_in 380 (by decide +kernel) rfl
theorem ml_X4_110 : Cond.methodLink RX4 110 yJ6_bitCount_0f7a4 ∈ pz_U := pz_in 384 (by decide +kernel) rfl
theorem ml_L_40 : Cond.methodLink RL 40 yX4_crease ∈ pz_U := pz_in 390 (by decide +kernel) rfl
theorem ml_L_44 : Cond.methodLink RL 44 yX4_judge ∈ pz_U := pz_in 394 (by decide +kernel) rfl
theorem ml_X4_127 : Cond.methodLink RX4 127 yX2_begin ∈ pz_U := pz_in 398 (by decide +kernel) rfl
theorem ml_X2_45 : Cond.methodLink RX2 45 yX2_beginWith ∈ pz_U := pz_in 402 (by decide +kernel) rfl
theorem ml_X2_49 : Cond.methodLink RX2 49 yJ7_fill_53178 ∈ pz_U := pz_in 406 (by decide +kernel) rfl
theorem ml_X2_60 : (RX2, 60, yX4_has, "CreaseFlat") ∈ pz_NM := by decide +kernel
theorem ml_X2_67 : Cond.methodLink RX2 67 yX2_demandTurn ∈ pz_U := pz_in 410 (by decide +kernel) rfl
theorem ml_X2_71 : Cond.methodLink RX2 71 yX1_hasCrease ∈ pz_U := pz_in 414 (by decide +kernel) rfl
theorem ml_X2_81 : Cond.methodLink RX2 81 yX1_isFrontUp ∈ pz_U := pz_in 415 (by decide +kernel) rfl
theorem ml_X2_84 : Cond.methodLink RX2 84 yX2_demandBelow ∈ pz_U := pz_in 416 (by decide +kernel) rfl
theorem ml_X2_87 : Cond.methodLink RX2 87 yX1_hasFace ∈ pz_U := pz_in 420 (by decide +kernel) rfl
theorem ml_X4_131 : Cond.methodLink RX4 131 yX2_next ∈ pz_U := pz_in 421 (by decide +kernel) rfl
theorem ml_X2_90 : Cond.methodLink RX2 90 yX1_isUneven ∈ pz_U := pz_in 425 (by decide +kernel) rfl
theorem ml_X2_94 : Cond.methodLink RX2 94 yX2_demandsClash ∈ pz_U := pz_in 429 (by decide +kernel) rfl
theorem ml_X2_98 : Cond.methodLink RX2 98 yX2_candidates ∈ pz_U := pz_in 433 (by decide +kernel) rfl
theorem ml_X2_127 : Cond.methodLink RX2 127 yX2_barredFromClosing ∈ pz_U := pz_in 437 (by decide +kernel) rfl
theorem ml_X2_131 : Cond.methodLink RX2 131 yX2_readyAmong ∈ pz_U := pz_in 441 (by decide +kernel) rfl
theorem ml_X2_103 : Cond.methodLink RX2 103 yX2_leastUntried ∈ pz_U := pz_in 446 (by decide +kernel) rfl
theorem ml_X2_107 : Cond.methodLink RX2 107 yX2_put ∈ pz_U := pz_in 450 (by decide +kernel) rfl
theorem ml_X2_113 : Cond.methodLink RX2 113 yX2_takeOff ∈ pz_U := pz_in 454 (by decide +kernel) rfl
theorem ml_L_48 : Cond.methodLink RL 48 yX4_layer ∈ pz_U := pz_in 461 (by decide +kernel) rfl
theorem ml_L_52 : Cond.methodLink RL 52 yX4_turned ∈ pz_U := pz_in 465 (by decide +kernel) rfl
theorem ml_X4_147 : Cond.methodLink RX4 147 yX1_becomes ∈ pz_U := pz_in 469 (by decide +kernel) rfl
theorem ml_L_56 : Cond.methodLink RL 56 yX4_orders ∈ pz_U := pz_in 473 (by decide +kernel) rfl
theorem ml_L_60 : Cond.methodLink RL 60 yX4_order ∈ pz_U := pz_in 478 (by decide +kernel) rfl
theorem ml_X4_156 : Cond.methodLink RX4 156 yX2_asNumber ∈ pz_U := pz_in 484 (by decide +kernel) rfl
theorem ml_L_67 : Cond.methodLink RL 67 yX4_check ∈ pz_U := pz_in 489 (by decide +kernel) rfl
theorem ml_X4_160 : Cond.methodLink RX4 160 yX4_readOrder ∈ pz_U := pz_in 493 (by decide +kernel) rfl
theorem ml_X4_205 : Cond.methodLink RX4 205 yX4_has ∈ pz_U := pz_in 498 (by decide +kernel) rfl
theorem ml_X4_164 : Cond.methodLink RX4 164 yX1_isUneven ∈ pz_U := pz_in 499 (by decide +kernel) rfl
theorem ml_X4_168 : Cond.methodLink RX4 168 yX1_brokenMark ∈ pz_U := pz_in 501 (by decide +kernel) rfl
theorem ml_X1_108 : Cond.methodLink RX1 108 yX1_becomes ∈ pz_U := pz_in 505 (by decide +kernel) rfl
theorem ml_X4_172 : Cond.methodLink RX4 172 yX1_brokenThrough ∈ pz_U := pz_in 506 (by decide +kernel) rfl
theorem ml_X1_112 : (RX1, 112, yX4_has, "CreaseFlat") ∈ pz_NM := by decide +kernel
theorem ml_X1_115 : Cond.methodLink RX1 115 yX1_liesWithin ∈ pz_U := pz_in 511 (by decide +kernel) rfl
theorem ml_X4_175 : Cond.methodLink RX4 175 yX1_brokenAcross ∈ pz_U := pz_in 515 (by decide +kernel) rfl
theorem ml_L_72 : Cond.methodLink RL 72 yX4_forced ∈ pz_U := pz_in 519 (by decide +kernel) rfl
theorem ml_X4_178 : Cond.methodLink RX4 178 yX4_canBecome ∈ pz_U := pz_in 523 (by decide +kernel) rfl
theorem ml_X4_257 : Cond.methodLink RX4 257 yX2_demandTurn ∈ pz_U := pz_in 527 (by decide +kernel) rfl
theorem ml_L_76 : Cond.methodLink RL 76 yX4_above ∈ pz_U := pz_in 528 (by decide +kernel) rfl
theorem ml_X4_182 : Cond.methodLink RX4 182 yX4_canLieBelow ∈ pz_U := pz_in 532 (by decide +kernel) rfl
theorem ml_X4_261 : Cond.methodLink RX4 261 yX2_demandBelow ∈ pz_U := pz_in 536 (by decide +kernel) rfl
theorem ml_L_80 : Cond.methodLink RL 80 yX4_alike ∈ pz_U := pz_in 537 (by decide +kernel) rfl
theorem ml_X4_185 : Cond.methodLink RX4 185 yX4_allowTheSame ∈ pz_U := pz_in 541 (by decide +kernel) rfl
theorem ml_L_84 : Cond.methodLink RL 84 yX4_foldings ∈ pz_U := pz_in 545 (by decide +kernel) rfl
theorem ml_X4_189 : Cond.methodLink RX4 189 yJ7_fill_d0a16 ∈ pz_U := pz_in 549 (by decide +kernel) rfl
theorem ml_X4_195 : Cond.methodLink RX4 195 yX1_valleysIn ∈ pz_U := pz_in 552 (by decide +kernel) rfl
theorem ml_X4_198 : Cond.methodLink RX4 198 yX4_isNew ∈ pz_U := pz_in 556 (by decide +kernel) rfl
theorem ml_L_88 : Cond.methodLink RL 88 yX4_clash ∈ pz_U := pz_in 560 (by decide +kernel) rfl
theorem ml_X4_201 : Cond.methodLink RX4 201 yX4_allowsSome ∈ pz_U := pz_in 564 (by decide +kernel) rfl
theorem ml_X4_264 : Cond.methodLink RX4 264 yX2_beginWith ∈ pz_U := pz_in 568 (by decide +kernel) rfl
theorem ml_L_92 : Cond.methodLink RL 92 yX4_inClash ∈ pz_U := pz_in 569 (by decide +kernel) rfl
theorem ml_L_96 : Cond.methodLink RL 96 yX4_simple ∈ pz_U := pz_in 573 (by decide +kernel) rfl
theorem ml_X4_209 : Cond.methodLink RX4 209 yX3_explore ∈ pz_U := pz_in 577 (by decide +kernel) rfl
theorem ml_X3_21 : Cond.methodLink RX3 21 yX1_allLines ∈ pz_U := pz_in 581 (by decide +kernel) rfl
theorem ml_X3_27 : Cond.methodLink RX3 27 yJ9_min_7cf53 ∈ pz_U := pz_in 585 (by decide +kernel) rfl
theorem ml_X3_33 : Cond.methodLink RX3 33 yX0_put ∈ pz_U := pz_in 586 (by decide +kernel) rfl
theorem ml_X0_23 : Cond.methodLink RX0 23 yX0_bands ∈ pz_U := pz_in 590 (by decide +kernel) rfl
theorem ml_X0_27 : Cond.methodLink RX0 27 yX0_lineBehind ∈ pz_U := pz_in 594 (by decide +kernel) rfl
theorem ml_X0_31 : (RX0, 31, yX4_has, "CreaseFlat") ∈ pz_NM := by decide +kernel
theorem ml_X3_39 : Cond.methodLink RX3 39 yX3_tryLines ∈ pz_U := pz_in 599 (by decide +kernel) rfl
theorem ml_X3_43 : Cond.methodLink RX3 43 yX0_bands ∈ pz_U := pz_in 603 (by decide +kernel) rfl
theorem ml_X3_47 : Cond.methodLink RX3 47 yX0_lineBehind ∈ pz_U := pz_in 604 (by decide +kernel) rfl
theorem ml_X3_51 : (RX3, 51, yX4_has, "CreaseFlat") ∈ pz_NM := by decide +kernel
theorem ml_X3_59 : Cond.methodLink RX3 59 yX3_tryStep ∈ pz_U := pz_in 606 (by decide +kernel) rfl
theorem ml_X3_62 : Cond.methodLink RX3 62 yX0_linesFoldedBy ∈ pz_U := pz_in 610 (by decide +kernel) rfl
theorem ml_X0_53 : Cond.methodLink RX0 53 yX0_unfoldedAt ∈ pz_U := pz_in 614 (by decide +kernel) rfl
theorem ml_X0_56 : Cond.methodLink RX0 56 yX0_isWithinOne ∈ pz_U := pz_in 618 (by decide +kernel) rfl
theorem ml_X0_64 : Cond.methodLink RX0 64 yX1_isBetween ∈ pz_U := pz_in 622 (by decide +kernel) rfl
theorem ml_X0_60 : Cond.methodLink RX0 60 yX0_marksAllow ∈ pz_U := pz_in 623 (by decide +kernel) rfl
theorem ml_X0_80 : Cond.methodLink RX0 80 yX0_isFrontUp ∈ pz_U := pz_in 627 (by decide +kernel) rfl
theorem ml_X4_216 : Cond.methodLink RX4 216 yX1_allLines ∈ pz_U := pz_in 631 (by decide +kernel) rfl
theorem ml_X4_220 : Cond.methodLink RX4 220 yX3_trace ∈ pz_U := pz_in 632 (by decide +kernel) rfl
theorem ml_L_100 : Cond.methodLink RL 100 yX4_step ∈ pz_U := pz_in 636 (by decide +kernel) rfl
theorem ml_L_104 : Cond.methodLink RL 104 yX4_fold ∈ pz_U := pz_in 640 (by decide +kernel) rfl
theorem ml_X4_226 : Cond.methodLink RX4 226 yX0_put ∈ pz_U := pz_in 644 (by decide +kernel) rfl
theorem ml_X4_230 : Cond.methodLink RX4 230 yX0_linesFoldedBy ∈ pz_U := pz_in 645 (by decide +kernel) rfl
theorem ml_X4_234 : Cond.methodLink RX4 234 yX1_creasesOn ∈ pz_U := pz_in 646 (by decide +kernel) rfl
theorem ml_L_108 : Cond.methodLink RL 108 yX4_flatten ∈ pz_U := pz_in 650 (by decide +kernel) rfl
theorem ml_L_112 : Cond.methodLink RL 112 yX4_lies ∈ pz_U := pz_in 654 (by decide +kernel) rfl
theorem ml_X4_246 : Cond.methodLink RX4 246 yX0_isFrontUp ∈ pz_U := pz_in 658 (by decide +kernel) rfl
theorem ml_L_12 : Cond.methodLink RL 12 yX5_init ∈ pz_U := pz_in 661 (by decide +kernel) rfl
theorem ml_X5_1 : Cond.methodLink RX5 1 objectInit ∈ pz_U := pz_in 664 (by decide +kernel) rfl
theorem ml_L_17 : Cond.methodLink RL 17 yX5_strip ∈ pz_U := pz_in 755 (by decide +kernel) rfl
theorem ml_X5_89 : Cond.methodLink RX5 89 yX5_add ∈ pz_U := pz_in 759 (by decide +kernel) rfl
theorem ml_X5_93 : Cond.methodLink RX5 93 yX5_addCrease ∈ pz_U := pz_in 763 (by decide +kernel) rfl
theorem ml_L_21 : Cond.methodLink RL 21 yX5_corner ∈ pz_U := pz_in 767 (by decide +kernel) rfl
theorem ml_L_26 : Cond.methodLink RL 26 yX5_map ∈ pz_U := pz_in 771 (by decide +kernel) rfl
theorem ml_L_31 : Cond.methodLink RL 31 yX5_length ∈ pz_U := pz_in 775 (by decide +kernel) rfl
theorem ml_X5_97 : Cond.methodLink RX5 97 yX5_hasFace ∈ pz_U := pz_in 779 (by decide +kernel) rfl
theorem ml_X5_85 : Cond.methodLink RX5 85 yX5_has ∈ pz_U := pz_in 783 (by decide +kernel) rfl
theorem ml_L_35 : Cond.methodLink RL 35 yX5_mark ∈ pz_U := pz_in 787 (by decide +kernel) rfl
theorem ml_X5_101 : Cond.methodLink RX5 101 yX5_hasCrease ∈ pz_U := pz_in 791 (by decide +kernel) rfl
theorem ml_L_39 : Cond.methodLink RL 39 yX5_about ∈ pz_U := pz_in 795 (by decide +kernel) rfl
theorem ml_X5_104 : Cond.methodLink RX5 104 yX5_marked ∈ pz_U := pz_in 799 (by decide +kernel) rfl
theorem ml_X5_107 : Cond.methodLink RX5 107 yX5_uneven ∈ pz_U := pz_in 803 (by decide +kernel) rfl
theorem ml_L_43 : Cond.methodLink RL 43 yX5_crease ∈ pz_U := pz_in 807 (by decide +kernel) rfl
theorem ml_X5_114 : Cond.methodLink RX5 114 yX5_placeOf ∈ pz_U := pz_in 811 (by decide +kernel) rfl
theorem ml_X5_111 : Cond.methodLink RX5 111 yX5_begins ∈ pz_U := pz_in 815 (by decide +kernel) rfl
theorem ml_L_47 : Cond.methodLink RL 47 yX5_judge ∈ pz_U := pz_in 819 (by decide +kernel) rfl
theorem ml_X5_157 : Cond.methodLink RX5 157 yX5_begin ∈ pz_U := pz_in 823 (by decide +kernel) rfl
theorem ml_X5_161 : Cond.methodLink RX5 161 yX5_next ∈ pz_U := pz_in 827 (by decide +kernel) rfl
theorem ml_X5_152 : Cond.methodLink RX5 152 yX5_isFine ∈ pz_U := pz_in 831 (by decide +kernel) rfl
theorem ml_X5_136 : Cond.methodLink RX5 136 yX5_isClosed ∈ pz_U := pz_in 835 (by decide +kernel) rfl
theorem ml_X5_143 : Cond.methodLink RX5 143 yX5_markIn ∈ pz_U := pz_in 839 (by decide +kernel) rfl
theorem ml_X5_133 : Cond.methodLink RX5 133 yX5_isUp ∈ pz_U := pz_in 843 (by decide +kernel) rfl
theorem ml_X5_127 : Cond.methodLink RX5 127 yX5_lesser ∈ pz_U := pz_in 847 (by decide +kernel) rfl
theorem ml_X5_130 : Cond.methodLink RX5 130 yX5_greater ∈ pz_U := pz_in 850 (by decide +kernel) rfl
theorem ml_X5_146 : Cond.methodLink RX5 146 yX5_isOneSide ∈ pz_U := pz_in 853 (by decide +kernel) rfl
theorem ml_X5_149 : Cond.methodLink RX5 149 yX5_isFour ∈ pz_U := pz_in 857 (by decide +kernel) rfl
theorem ml_X5_140 : Cond.methodLink RX5 140 yX5_isWithin ∈ pz_U := pz_in 861 (by decide +kernel) rfl
theorem ml_L_51 : Cond.methodLink RL 51 yX5_layer ∈ pz_U := pz_in 865 (by decide +kernel) rfl
theorem ml_L_55 : Cond.methodLink RL 55 yX5_turned ∈ pz_U := pz_in 869 (by decide +kernel) rfl
theorem ml_L_59 : Cond.methodLink RL 59 yX5_orders ∈ pz_U := pz_in 873 (by decide +kernel) rfl
theorem ml_L_64 : Cond.methodLink RL 64 yX5_order ∈ pz_U := pz_in 877 (by decide +kernel) rfl
theorem ml_X5_167 : Cond.methodLink RX5 167 yX5_number ∈ pz_U := pz_in 882 (by decide +kernel) rfl
theorem ml_L_71 : Cond.methodLink RL 71 yX5_check ∈ pz_U := pz_in 888 (by decide +kernel) rfl
theorem ml_X5_174 : Cond.methodLink RX5 174 yX5_isBetween ∈ pz_U := pz_in 893 (by decide +kernel) rfl
theorem ml_L_75 : Cond.methodLink RL 75 yX5_forced ∈ pz_U := pz_in 897 (by decide +kernel) rfl
theorem ml_L_79 : Cond.methodLink RL 79 yX5_above ∈ pz_U := pz_in 901 (by decide +kernel) rfl
theorem ml_L_83 : Cond.methodLink RL 83 yX5_alike ∈ pz_U := pz_in 905 (by decide +kernel) rfl
theorem ml_X5_177 : Cond.methodLink RX5 177 yX5_orders ∈ pz_U := pz_in 909 (by decide +kernel) rfl
theorem ml_X5_180 : Cond.methodLink RX5 180 yX5_check ∈ pz_U := pz_in 910 (by decide +kernel) rfl
theorem ml_L_87 : Cond.methodLink RL 87 yX5_foldings ∈ pz_U := pz_in 911 (by decide +kernel) rfl
theorem ml_L_91 : Cond.methodLink RL 91 yX5_clash ∈ pz_U := pz_in 915 (by decide +kernel) rfl
theorem ml_X5_187 : Cond.methodLink RX5 187 yX5_isAllowed ∈ pz_U := pz_in 919 (by decide +kernel) rfl
theorem ml_L_95 : Cond.methodLink RL 95 yX5_inClash ∈ pz_U := pz_in 923 (by decide +kernel) rfl
theorem ml_L_99 : Cond.methodLink RL 99 yX5_simple ∈ pz_U := pz_in 927 (by decide +kernel) rfl
theorem ml_X5_196 : Cond.methodLink RX5 196 yX5_gapsOf ∈ pz_U := pz_in 931 (by decide +kernel) rfl
theorem ml_X5_204 : Cond.methodLink RX5 204 yX5_stateOf ∈ pz_U := pz_in 935 (by decide +kernel) rfl
theorem ml_X5_207 : Cond.methodLink RX5 207 yX5_best ∈ pz_U := pz_in 939 (by decide +kernel) rfl
theorem ml_X5_200 : Cond.methodLink RX5 200 yX5_liesAt ∈ pz_U := pz_in 943 (by decide +kernel) rfl
theorem ml_X5_190 : Cond.methodLink RX5 190 yX5_goesUp ∈ pz_U := pz_in 947 (by decide +kernel) rfl
theorem ml_X5_193 : Cond.methodLink RX5 193 yX5_lengthOf ∈ pz_U := pz_in 950 (by decide +kernel) rfl
theorem ml_X5_214 : Cond.methodLink RX5 214 yX5_done ∈ pz_U := pz_in 954 (by decide +kernel) rfl
theorem ml_L_103 : Cond.methodLink RL 103 yX5_step ∈ pz_U := pz_in 958 (by decide +kernel) rfl
theorem ml_L_107 : Cond.methodLink RL 107 yX5_fold ∈ pz_U := pz_in 962 (by decide +kernel) rfl
theorem ml_X5_221 : Cond.methodLink RX5 221 yX5_creasesIn ∈ pz_U := pz_in 966 (by decide +kernel) rfl
theorem ml_X5_218 : Cond.methodLink RX5 218 yX5_bits ∈ pz_U := pz_in 970 (by decide +kernel) rfl
theorem ml_L_111 : Cond.methodLink RL 111 yX5_flatten ∈ pz_U := pz_in 973 (by decide +kernel) rfl
theorem ml_L_115 : Cond.methodLink RL 115 yX5_lies ∈ pz_U := pz_in 977 (by decide +kernel) rfl
theorem mi_obj : Cond.instanceMethod objectInit ∈ pz_U := pz_in 73 (by decide +kernel) rfl
theorem mc_obj : Cond.code objectInit ⟨#[0xb1]⟩ 1 none ∈ pz_U := pz_in 74 (by decide +kernel) rfl
theorem cz_L : Cond.initialized RL ∈ pz_U := pz_in 56 (by decide +kernel) rfl
theorem cz_X4 : Cond.initialized RX4 ∈ pz_U := pz_in 57 (by decide +kernel) rfl
theorem cz_X2 : Cond.initialized RX2 ∈ pz_U := pz_in 58 (by decide +kernel) rfl
theorem cz_X0 : Cond.initialized RX0 ∈ pz_U := pz_in 59 (by decide +kernel) rfl
theorem cz_X3 : Cond.initialized RX3 ∈ pz_U := pz_in 60 (by decide +kernel) rfl
theorem cz_X5 : Cond.initialized RX5 ∈ pz_U := pz_in 61 (by decide +kernel) rfl
theorem cz_X1 : Cond.initialized RX1 ∈ pz_U := pz_in 62 (by decide +kernel) rfl
theorem cz_J7 : Cond.initialized RJ7 ∈ pz_U := pz_in 63 (by decide +kernel) rfl
theorem cz_J9 : Cond.initialized RJ9 ∈ pz_U := pz_in 64 (by decide +kernel) rfl
theorem cz_J6 : Cond.initialized RJ6 ∈ pz_U := pz_in 65 (by decide +kernel) rfl
theorem cz_J10 : Cond.initialized RJ10 ∈ pz_U := pz_in 66 (by decide +kernel) rfl
theorem cl_L_7 : Cond.classLink RL 7 "CreaseFlat" ∈ pz_U := pz_in 67 (by decide +kernel) rfl
theorem ci_X4 : Cond.instantiable RX4 15 ∈ pz_U := pz_in 68 (by decide +kernel) rfl
theorem cl_X4_9 : Cond.classLink RX4 9 "CreaseFlat$Paper" ∈ pz_U := pz_in 75 (by decide +kernel) rfl
theorem cl_X4_19 : Cond.classLink RX4 19 "CreaseFlat$Pile" ∈ pz_U := pz_in 77 (by decide +kernel) rfl
theorem ci_X2 : Cond.instantiable RX2 10 ∈ pz_U := pz_in 78 (by decide +kernel) rfl
theorem ca_int : Cond.arrayClass .int ∈ pz_U := pz_in 116 (by decide +kernel) rfl
theorem cl_X4_53 : Cond.classLink RX4 53 "CreaseFlat$Lay" ∈ pz_U := pz_in 117 (by decide +kernel) rfl
theorem ci_X0 : Cond.instantiable RX0 3 ∈ pz_U := pz_in 118 (by decide +kernel) rfl
theorem cl_X0_15 : Cond.classLink RX0 15 "[[I" ∈ pz_U := pz_in 123 (by decide +kernel) rfl
theorem ca_long : Cond.arrayClass .long ∈ pz_U := pz_in 138 (by decide +kernel) rfl
theorem cl_X4_60 : Cond.classLink RX4 60 "CreaseFlat$Ways" ∈ pz_U := pz_in 139 (by decide +kernel) rfl
theorem ci_X3 : Cond.instantiable RX3 3 ∈ pz_U := pz_in 140 (by decide +kernel) rfl
theorem ci_X1 : Cond.instantiable RX1 18 ∈ pz_U := pz_in 210 (by decide +kernel) rfl
theorem cn_J6_265 : Cond.constant RJ6 265 1431655765 ∈ pz_U := pz_in 387 (by decide +kernel) rfl
theorem cn_J6_266 : Cond.constant RJ6 266 858993459 ∈ pz_U := pz_in 388 (by decide +kernel) rfl
theorem cn_J6_267 : Cond.constant RJ6 267 252645135 ∈ pz_U := pz_in 389 (by decide +kernel) rfl
theorem cn_X2_102 : Cond.constant RX2 102 2000000 ∈ pz_U := pz_in 445 (by decide +kernel) rfl
theorem cn_X4_151 : Cond.constant RX4 151 362880 ∈ pz_U := pz_in 477 (by decide +kernel) rfl
theorem cn_X4_152 : Cond.constantLong RX4 152 (-101) ∈ pz_U := pz_in 482 (by decide +kernel) rfl
theorem cn_X4_154 : Cond.constantLong RX4 154 (-102) ∈ pz_U := pz_in 483 (by decide +kernel) rfl
theorem cn_X2_116 : Cond.constantLong RX2 116 10 ∈ pz_U := pz_in 488 (by decide +kernel) rfl
theorem cn_X4_255 : Cond.constantLong RX4 255 10 ∈ pz_U := pz_in 497 (by decide +kernel) rfl
theorem cn_X4_167 : Cond.constant RX4 167 40000 ∈ pz_U := pz_in 500 (by decide +kernel) rfl
theorem cl_L_10 : Cond.classLink RL 10 "CreaseFlatModel" ∈ pz_U := pz_in 659 (by decide +kernel) rfl
theorem ci_X5 : Cond.instantiable RX5 29 ∈ pz_U := pz_in 660 (by decide +kernel) rfl
theorem cn_X5_75 : Cond.constant RX5 75 65536 ∈ pz_U := pz_in 665 (by decide +kernel) rfl
theorem ca_boolean : Cond.arrayClass .boolean ∈ pz_U := pz_in 754 (by decide +kernel) rfl
theorem cn_X5_165 : Cond.constantLong RX5 165 (-101) ∈ pz_U := pz_in 881 (by decide +kernel) rfl
theorem cn_X5_155 : Cond.constantLong RX5 155 10 ∈ pz_U := pz_in 886 (by decide +kernel) rfl
theorem cn_X5_171 : Cond.constantLong RX5 171 (-102) ∈ pz_U := pz_in 887 (by decide +kernel) rfl
theorem cn_X5_173 : Cond.constant RX5 173 40000 ∈ pz_U := pz_in 892 (by decide +kernel) rfl
theorem cn_L_65 : Cond.constantLong RL 65 4294967295 ∈ pz_U := pz_in 981 (by decide +kernel) rfl
end
