section
-- ===== PART A: goes FIRST, ahead of the names: the tables' words, and 'selects' of the private methods out of them =====
/-- a private method of a class that the tables say can be made, by its rows of tables_1 -/
def lw_okq (q : MethodName × Nat) : Prop := (q.1.cls ≠ "java/lang/invoke/MethodHandle" ∧ q.1.cls ≠ "java/lang/invoke/VarHandle") ∧ Cond.instantiable q.1.cls q.2 ∈ tables_1 ∧ Cond.privateMethod q.1 ∈ tables_1 ∧ Cond.instanceMethod q.1 ∈ tables_1
theorem lw_p0 : lw_okq (⟨"SquaredRows", "refuse", "(I)I"⟩, 12) := ⟨⟨by decide +kernel, by decide +kernel⟩, List.mem_of_getElem? (i := 12) (by decide +kernel), List.mem_of_getElem? (i := 198) (by decide +kernel), List.mem_of_getElem? (i := 199) (by decide +kernel)⟩
theorem lw_p1 : lw_okq (⟨"SquaredRows", "keepTrial", "()V"⟩, 12) := ⟨⟨by decide +kernel, by decide +kernel⟩, List.mem_of_getElem? (i := 12) (by decide +kernel), List.mem_of_getElem? (i := 204) (by decide +kernel), List.mem_of_getElem? (i := 205) (by decide +kernel)⟩
theorem lw_p2 : lw_okq (⟨"SquaredRows$States", "place", "(I)I"⟩, 3) := ⟨⟨by decide +kernel, by decide +kernel⟩, List.mem_of_getElem? (i := 69) (by decide +kernel), List.mem_of_getElem? (i := 212) (by decide +kernel), List.mem_of_getElem? (i := 213) (by decide +kernel)⟩
theorem lw_p3 : lw_okq (⟨"SquaredRows$Row", "takeNext", "(I)I"⟩, 4) := ⟨⟨by decide +kernel, by decide +kernel⟩, List.mem_of_getElem? (i := 20) (by decide +kernel), List.mem_of_getElem? (i := 250) (by decide +kernel), List.mem_of_getElem? (i := 251) (by decide +kernel)⟩
theorem lw_p4 : lw_okq (⟨"SquaredRows$Minors", "expand", "(LSquaredRows$Row;II)J"⟩, 2) := ⟨⟨by decide +kernel, by decide +kernel⟩, List.mem_of_getElem? (i := 54) (by decide +kernel), List.mem_of_getElem? (i := 319) (by decide +kernel), List.mem_of_getElem? (i := 320) (by decide +kernel)⟩
theorem lw_p5 : lw_okq (⟨"SquaredRows$Minors", "minor", "(I)J"⟩, 2) := ⟨⟨by decide +kernel, by decide +kernel⟩, List.mem_of_getElem? (i := 54) (by decide +kernel), List.mem_of_getElem? (i := 330) (by decide +kernel), List.mem_of_getElem? (i := 331) (by decide +kernel)⟩
theorem lw_p6 : lw_okq (⟨"SquaredRows", "findPolynomial", "(I)Z"⟩, 12) := ⟨⟨by decide +kernel, by decide +kernel⟩, List.mem_of_getElem? (i := 12) (by decide +kernel), List.mem_of_getElem? (i := 343) (by decide +kernel), List.mem_of_getElem? (i := 344) (by decide +kernel)⟩
theorem lw_p7 : lw_okq (⟨"SquaredRows", "findRule", "(I)Z"⟩, 12) := ⟨⟨by decide +kernel, by decide +kernel⟩, List.mem_of_getElem? (i := 12) (by decide +kernel), List.mem_of_getElem? (i := 373) (by decide +kernel), List.mem_of_getElem? (i := 374) (by decide +kernel)⟩
theorem lw_p8 : lw_okq (⟨"SquaredRows", "judge", "()V"⟩, 12) := ⟨⟨by decide +kernel, by decide +kernel⟩, List.mem_of_getElem? (i := 12) (by decide +kernel), List.mem_of_getElem? (i := 381) (by decide +kernel), List.mem_of_getElem? (i := 382) (by decide +kernel)⟩
theorem lw_p9 : lw_okq (⟨"SquaredRows", "find", "(IIII)V"⟩, 12) := ⟨⟨by decide +kernel, by decide +kernel⟩, List.mem_of_getElem? (i := 12) (by decide +kernel), List.mem_of_getElem? (i := 386) (by decide +kernel), List.mem_of_getElem? (i := 387) (by decide +kernel)⟩
theorem lw_p10 : lw_okq (⟨"SquaredRows", "findRest", "(I)I"⟩, 12) := ⟨⟨by decide +kernel, by decide +kernel⟩, List.mem_of_getElem? (i := 12) (by decide +kernel), List.mem_of_getElem? (i := 390) (by decide +kernel), List.mem_of_getElem? (i := 391) (by decide +kernel)⟩
theorem lw_p11 : lw_okq (⟨"SquaredRows", "findZeros", "(I)Z"⟩, 12) := ⟨⟨by decide +kernel, by decide +kernel⟩, List.mem_of_getElem? (i := 12) (by decide +kernel), List.mem_of_getElem? (i := 417) (by decide +kernel), List.mem_of_getElem? (i := 418) (by decide +kernel)⟩
theorem lw_p12 : lw_okq (⟨"SquaredRows", "enclose", "(III)I"⟩, 12) := ⟨⟨by decide +kernel, by decide +kernel⟩, List.mem_of_getElem? (i := 12) (by decide +kernel), List.mem_of_getElem? (i := 433) (by decide +kernel), List.mem_of_getElem? (i := 434) (by decide +kernel)⟩
theorem lw_p13 : lw_okq (⟨"SquaredRows$Reader", "forgetNumber", "()V"⟩, 9) := ⟨⟨by decide +kernel, by decide +kernel⟩, List.mem_of_getElem? (i := 99) (by decide +kernel), List.mem_of_getElem? (i := 507) (by decide +kernel), List.mem_of_getElem? (i := 508) (by decide +kernel)⟩
theorem lw_p14 : lw_okq (⟨"SquaredRows$Reader", "accept", "(I)Z"⟩, 9) := ⟨⟨by decide +kernel, by decide +kernel⟩, List.mem_of_getElem? (i := 99) (by decide +kernel), List.mem_of_getElem? (i := 516) (by decide +kernel), List.mem_of_getElem? (i := 517) (by decide +kernel)⟩
theorem lw_p15 : lw_okq (⟨"SquaredRows$Reader", "acceptFigure", "(I)Z"⟩, 9) := ⟨⟨by decide +kernel, by decide +kernel⟩, List.mem_of_getElem? (i := 99) (by decide +kernel), List.mem_of_getElem? (i := 520) (by decide +kernel), List.mem_of_getElem? (i := 521) (by decide +kernel)⟩
def lw_privs_1 : List (MethodName × Nat) := [(⟨"SquaredRows", "refuse", "(I)I"⟩, 12), (⟨"SquaredRows", "keepTrial", "()V"⟩, 12), (⟨"SquaredRows$States", "place", "(I)I"⟩, 3), (⟨"SquaredRows$Row", "takeNext", "(I)I"⟩, 4), (⟨"SquaredRows$Minors", "expand", "(LSquaredRows$Row;II)J"⟩, 2), (⟨"SquaredRows$Minors", "minor", "(I)J"⟩, 2), (⟨"SquaredRows", "findPolynomial", "(I)Z"⟩, 12), (⟨"SquaredRows", "findRule", "(I)Z"⟩, 12), (⟨"SquaredRows", "judge", "()V"⟩, 12), (⟨"SquaredRows", "find", "(IIII)V"⟩, 12), (⟨"SquaredRows", "findRest", "(I)I"⟩, 12), (⟨"SquaredRows", "findZeros", "(I)Z"⟩, 12), (⟨"SquaredRows", "enclose", "(III)I"⟩, 12), (⟨"SquaredRows$Reader", "forgetNumber", "()V"⟩, 9), (⟨"SquaredRows$Reader", "accept", "(I)Z"⟩, 9), (⟨"SquaredRows$Reader", "acceptFigure", "(I)Z"⟩, 9)]
theorem lw_r1 : ∀ q ∈ lw_privs_1, lw_okq q := List.forall_mem_cons.mpr ⟨lw_p0, List.forall_mem_cons.mpr ⟨lw_p1, List.forall_mem_cons.mpr ⟨lw_p2, List.forall_mem_cons.mpr ⟨lw_p3, List.forall_mem_cons.mpr ⟨lw_p4, List.forall_mem_cons.mpr ⟨lw_p5, List.forall_mem_cons.mpr ⟨lw_p6, List.forall_mem_cons.mpr ⟨lw_p7, List.forall_mem_cons.mpr ⟨lw_p8, List.forall_mem_cons.mpr ⟨lw_p9, List.forall_mem_cons.mpr ⟨lw_p10, List.forall_mem_cons.mpr ⟨lw_p11, List.forall_mem_cons.mpr ⟨lw_p12, List.forall_mem_cons.mpr ⟨lw_p13, List.forall_mem_cons.mpr ⟨lw_p14, List.forall_mem_cons.mpr ⟨lw_p15, fun _ h => absurd h List.not_mem_nil⟩⟩⟩⟩⟩⟩⟩⟩⟩⟩⟩⟩⟩⟩⟩⟩
theorem lw_p16 : lw_okq (⟨"SquaredRows$Reader", "given", "()I"⟩, 9) := ⟨⟨by decide +kernel, by decide +kernel⟩, List.mem_of_getElem? (i := 99) (by decide +kernel), List.mem_of_getElem? (i := 524) (by decide +kernel), List.mem_of_getElem? (i := 525) (by decide +kernel)⟩
theorem lw_p17 : lw_okq (⟨"SquaredRows$Reader", "closeNumber", "()V"⟩, 9) := ⟨⟨by decide +kernel, by decide +kernel⟩, List.mem_of_getElem? (i := 99) (by decide +kernel), List.mem_of_getElem? (i := 531) (by decide +kernel), List.mem_of_getElem? (i := 532) (by decide +kernel)⟩
theorem lw_p18 : lw_okq (⟨"SquaredRows$Reader", "openOrder", "(I)Z"⟩, 9) := ⟨⟨by decide +kernel, by decide +kernel⟩, List.mem_of_getElem? (i := 99) (by decide +kernel), List.mem_of_getElem? (i := 535) (by decide +kernel), List.mem_of_getElem? (i := 536) (by decide +kernel)⟩
theorem lw_p19 : lw_okq (⟨"SquaredRows$Reader", "closeOrder", "()Z"⟩, 9) := ⟨⟨by decide +kernel, by decide +kernel⟩, List.mem_of_getElem? (i := 99) (by decide +kernel), List.mem_of_getElem? (i := 539) (by decide +kernel), List.mem_of_getElem? (i := 540) (by decide +kernel)⟩
theorem lw_p20 : lw_okq (⟨"SquaredRows$Reader", "performOne", "(LSquaredRows$Row;I)I"⟩, 9) := ⟨⟨by decide +kernel, by decide +kernel⟩, List.mem_of_getElem? (i := 99) (by decide +kernel), List.mem_of_getElem? (i := 550) (by decide +kernel), List.mem_of_getElem? (i := 551) (by decide +kernel)⟩
theorem lw_p21 : lw_okq (⟨"SquaredRows", "tally", "(I)I"⟩, 12) := ⟨⟨by decide +kernel, by decide +kernel⟩, List.mem_of_getElem? (i := 12) (by decide +kernel), List.mem_of_getElem? (i := 595) (by decide +kernel), List.mem_of_getElem? (i := 596) (by decide +kernel)⟩
theorem lw_p22 : lw_okq (⟨"SquaredRows", "digestPolynomial", "(JI)J"⟩, 12) := ⟨⟨by decide +kernel, by decide +kernel⟩, List.mem_of_getElem? (i := 12) (by decide +kernel), List.mem_of_getElem? (i := 605) (by decide +kernel), List.mem_of_getElem? (i := 606) (by decide +kernel)⟩
theorem lw_p23 : lw_okq (⟨"SquaredRowsModel", "bad", "()I"⟩, 25) := ⟨⟨by decide +kernel, by decide +kernel⟩, List.mem_of_getElem? (i := 609) (by decide +kernel), List.mem_of_getElem? (i := 700) (by decide +kernel), List.mem_of_getElem? (i := 701) (by decide +kernel)⟩
theorem lw_p24 : lw_okq (⟨"SquaredRowsModel", "note", "([I)V"⟩, 25) := ⟨⟨by decide +kernel, by decide +kernel⟩, List.mem_of_getElem? (i := 609) (by decide +kernel), List.mem_of_getElem? (i := 705) (by decide +kernel), List.mem_of_getElem? (i := 706) (by decide +kernel)⟩
theorem lw_p25 : lw_okq (⟨"SquaredRowsModel", "bring", "([II[II)V"⟩, 25) := ⟨⟨by decide +kernel, by decide +kernel⟩, List.mem_of_getElem? (i := 609) (by decide +kernel), List.mem_of_getElem? (i := 709) (by decide +kernel), List.mem_of_getElem? (i := 710) (by decide +kernel)⟩
theorem lw_p26 : lw_okq (⟨"SquaredRowsModel", "full", "()I"⟩, 25) := ⟨⟨by decide +kernel, by decide +kernel⟩, List.mem_of_getElem? (i := 609) (by decide +kernel), List.mem_of_getElem? (i := 717) (by decide +kernel), List.mem_of_getElem? (i := 718) (by decide +kernel)⟩
theorem lw_p27 : lw_okq (⟨"SquaredRowsModel", "put", "(I)V"⟩, 25) := ⟨⟨by decide +kernel, by decide +kernel⟩, List.mem_of_getElem? (i := 609) (by decide +kernel), List.mem_of_getElem? (i := 722) (by decide +kernel), List.mem_of_getElem? (i := 723) (by decide +kernel)⟩
theorem lw_p28 : lw_okq (⟨"SquaredRowsModel", "no", "()I"⟩, 25) := ⟨⟨by decide +kernel, by decide +kernel⟩, List.mem_of_getElem? (i := 609) (by decide +kernel), List.mem_of_getElem? (i := 730) (by decide +kernel), List.mem_of_getElem? (i := 731) (by decide +kernel)⟩
theorem lw_p29 : lw_okq (⟨"SquaredRowsModel", "cut", "()V"⟩, 25) := ⟨⟨by decide +kernel, by decide +kernel⟩, List.mem_of_getElem? (i := 609) (by decide +kernel), List.mem_of_getElem? (i := 735) (by decide +kernel), List.mem_of_getElem? (i := 736) (by decide +kernel)⟩
theorem lw_p30 : lw_okq (⟨"SquaredRowsModel", "addPlace", "(II)Z"⟩, 25) := ⟨⟨by decide +kernel, by decide +kernel⟩, List.mem_of_getElem? (i := 609) (by decide +kernel), List.mem_of_getElem? (i := 753) (by decide +kernel), List.mem_of_getElem? (i := 754) (by decide +kernel)⟩
theorem lw_p31 : lw_okq (⟨"SquaredRowsModel", "takeMade", "(I)Z"⟩, 25) := ⟨⟨by decide +kernel, by decide +kernel⟩, List.mem_of_getElem? (i := 609) (by decide +kernel), List.mem_of_getElem? (i := 760) (by decide +kernel), List.mem_of_getElem? (i := 761) (by decide +kernel)⟩
def lw_privs_2 : List (MethodName × Nat) := [(⟨"SquaredRows$Reader", "given", "()I"⟩, 9), (⟨"SquaredRows$Reader", "closeNumber", "()V"⟩, 9), (⟨"SquaredRows$Reader", "openOrder", "(I)Z"⟩, 9), (⟨"SquaredRows$Reader", "closeOrder", "()Z"⟩, 9), (⟨"SquaredRows$Reader", "performOne", "(LSquaredRows$Row;I)I"⟩, 9), (⟨"SquaredRows", "tally", "(I)I"⟩, 12), (⟨"SquaredRows", "digestPolynomial", "(JI)J"⟩, 12), (⟨"SquaredRowsModel", "bad", "()I"⟩, 25), (⟨"SquaredRowsModel", "note", "([I)V"⟩, 25), (⟨"SquaredRowsModel", "bring", "([II[II)V"⟩, 25), (⟨"SquaredRowsModel", "full", "()I"⟩, 25), (⟨"SquaredRowsModel", "put", "(I)V"⟩, 25), (⟨"SquaredRowsModel", "no", "()I"⟩, 25), (⟨"SquaredRowsModel", "cut", "()V"⟩, 25), (⟨"SquaredRowsModel", "addPlace", "(II)Z"⟩, 25), (⟨"SquaredRowsModel", "takeMade", "(I)Z"⟩, 25)]
theorem lw_r2 : ∀ q ∈ lw_privs_2, lw_okq q := List.forall_mem_cons.mpr ⟨lw_p16, List.forall_mem_cons.mpr ⟨lw_p17, List.forall_mem_cons.mpr ⟨lw_p18, List.forall_mem_cons.mpr ⟨lw_p19, List.forall_mem_cons.mpr ⟨lw_p20, List.forall_mem_cons.mpr ⟨lw_p21, List.forall_mem_cons.mpr ⟨lw_p22, List.forall_mem_cons.mpr ⟨lw_p23, List.forall_mem_cons.mpr ⟨lw_p24, List.forall_mem_cons.mpr ⟨lw_p25, List.forall_mem_cons.mpr ⟨lw_p26, List.forall_mem_cons.mpr ⟨lw_p27, List.forall_mem_cons.mpr ⟨lw_p28, List.forall_mem_cons.mpr ⟨lw_p29, List.forall_mem_cons.mpr ⟨lw_p30, List.forall_mem_cons.mpr ⟨lw_p31, fun _ h => absurd h List.not_mem_nil⟩⟩⟩⟩⟩⟩⟩⟩⟩⟩⟩⟩⟩⟩⟩⟩
theorem lw_p32 : lw_okq (⟨"SquaredRowsModel", "move", "(I)Z"⟩, 25) := ⟨⟨by decide +kernel, by decide +kernel⟩, List.mem_of_getElem? (i := 609) (by decide +kernel), List.mem_of_getElem? (i := 768) (by decide +kernel), List.mem_of_getElem? (i := 769) (by decide +kernel)⟩
theorem lw_p33 : lw_okq (⟨"SquaredRowsModel", "last", "()I"⟩, 25) := ⟨⟨by decide +kernel, by decide +kernel⟩, List.mem_of_getElem? (i := 609) (by decide +kernel), List.mem_of_getElem? (i := 775) (by decide +kernel), List.mem_of_getElem? (i := 776) (by decide +kernel)⟩
theorem lw_p34 : lw_okq (⟨"SquaredRowsModel", "stretch", "(I)Z"⟩, 25) := ⟨⟨by decide +kernel, by decide +kernel⟩, List.mem_of_getElem? (i := 609) (by decide +kernel), List.mem_of_getElem? (i := 783) (by decide +kernel), List.mem_of_getElem? (i := 784) (by decide +kernel)⟩
theorem lw_p35 : lw_okq (⟨"SquaredRowsModel", "weigh", "(I)Z"⟩, 25) := ⟨⟨by decide +kernel, by decide +kernel⟩, List.mem_of_getElem? (i := 609) (by decide +kernel), List.mem_of_getElem? (i := 791) (by decide +kernel), List.mem_of_getElem? (i := 792) (by decide +kernel)⟩
theorem lw_p36 : lw_okq (⟨"SquaredRowsModel", "isThere", "(II)Z"⟩, 25) := ⟨⟨by decide +kernel, by decide +kernel⟩, List.mem_of_getElem? (i := 609) (by decide +kernel), List.mem_of_getElem? (i := 809) (by decide +kernel), List.mem_of_getElem? (i := 810) (by decide +kernel)⟩
theorem lw_p37 : lw_okq (⟨"SquaredRowsModel", "detOf", "(II)J"⟩, 25) := ⟨⟨by decide +kernel, by decide +kernel⟩, List.mem_of_getElem? (i := 609) (by decide +kernel), List.mem_of_getElem? (i := 813) (by decide +kernel), List.mem_of_getElem? (i := 814) (by decide +kernel)⟩
theorem lw_p38 : lw_okq (⟨"SquaredRowsModel", "clearTable", "(I)J"⟩, 25) := ⟨⟨by decide +kernel, by decide +kernel⟩, List.mem_of_getElem? (i := 609) (by decide +kernel), List.mem_of_getElem? (i := 817) (by decide +kernel), List.mem_of_getElem? (i := 818) (by decide +kernel)⟩
theorem lw_p39 : lw_okq (⟨"SquaredRowsModel", "isPoly", "(I)Z"⟩, 25) := ⟨⟨by decide +kernel, by decide +kernel⟩, List.mem_of_getElem? (i := 609) (by decide +kernel), List.mem_of_getElem? (i := 829) (by decide +kernel), List.mem_of_getElem? (i := 830) (by decide +kernel)⟩
theorem lw_p40 : lw_okq (⟨"SquaredRowsModel", "makePoly", "(I)V"⟩, 25) := ⟨⟨by decide +kernel, by decide +kernel⟩, List.mem_of_getElem? (i := 609) (by decide +kernel), List.mem_of_getElem? (i := 833) (by decide +kernel), List.mem_of_getElem? (i := 834) (by decide +kernel)⟩
theorem lw_p41 : lw_okq (⟨"SquaredRowsModel", "isNorm", "(I)Z"⟩, 25) := ⟨⟨by decide +kernel, by decide +kernel⟩, List.mem_of_getElem? (i := 609) (by decide +kernel), List.mem_of_getElem? (i := 847) (by decide +kernel), List.mem_of_getElem? (i := 848) (by decide +kernel)⟩
theorem lw_p42 : lw_okq (⟨"SquaredRowsModel", "judge", "()V"⟩, 25) := ⟨⟨by decide +kernel, by decide +kernel⟩, List.mem_of_getElem? (i := 609) (by decide +kernel), List.mem_of_getElem? (i := 860) (by decide +kernel), List.mem_of_getElem? (i := 861) (by decide +kernel)⟩
theorem lw_p43 : lw_okq (⟨"SquaredRowsModel", "meanWith", "(II)J"⟩, 25) := ⟨⟨by decide +kernel, by decide +kernel⟩, List.mem_of_getElem? (i := 609) (by decide +kernel), List.mem_of_getElem? (i := 865) (by decide +kernel), List.mem_of_getElem? (i := 866) (by decide +kernel)⟩
theorem lw_p44 : lw_okq (⟨"SquaredRowsModel", "polyAt", "(III)J"⟩, 25) := ⟨⟨by decide +kernel, by decide +kernel⟩, List.mem_of_getElem? (i := 609) (by decide +kernel), List.mem_of_getElem? (i := 876) (by decide +kernel), List.mem_of_getElem? (i := 877) (by decide +kernel)⟩
theorem lw_p45 : lw_okq (⟨"SquaredRowsModel", "isPositive", "(I)Z"⟩, 25) := ⟨⟨by decide +kernel, by decide +kernel⟩, List.mem_of_getElem? (i := 609) (by decide +kernel), List.mem_of_getElem? (i := 884) (by decide +kernel), List.mem_of_getElem? (i := 885) (by decide +kernel)⟩
theorem lw_p46 : lw_okq (⟨"SquaredRowsModel", "belowSpot", "(III)I"⟩, 25) := ⟨⟨by decide +kernel, by decide +kernel⟩, List.mem_of_getElem? (i := 609) (by decide +kernel), List.mem_of_getElem? (i := 888) (by decide +kernel), List.mem_of_getElem? (i := 889) (by decide +kernel)⟩
theorem lw_p47 : lw_okq (⟨"SquaredRowsModel", "makeProduct", "(II)V"⟩, 25) := ⟨⟨by decide +kernel, by decide +kernel⟩, List.mem_of_getElem? (i := 609) (by decide +kernel), List.mem_of_getElem? (i := 907) (by decide +kernel), List.mem_of_getElem? (i := 908) (by decide +kernel)⟩
def lw_privs_3 : List (MethodName × Nat) := [(⟨"SquaredRowsModel", "move", "(I)Z"⟩, 25), (⟨"SquaredRowsModel", "last", "()I"⟩, 25), (⟨"SquaredRowsModel", "stretch", "(I)Z"⟩, 25), (⟨"SquaredRowsModel", "weigh", "(I)Z"⟩, 25), (⟨"SquaredRowsModel", "isThere", "(II)Z"⟩, 25), (⟨"SquaredRowsModel", "detOf", "(II)J"⟩, 25), (⟨"SquaredRowsModel", "clearTable", "(I)J"⟩, 25), (⟨"SquaredRowsModel", "isPoly", "(I)Z"⟩, 25), (⟨"SquaredRowsModel", "makePoly", "(I)V"⟩, 25), (⟨"SquaredRowsModel", "isNorm", "(I)Z"⟩, 25), (⟨"SquaredRowsModel", "judge", "()V"⟩, 25), (⟨"SquaredRowsModel", "meanWith", "(II)J"⟩, 25), (⟨"SquaredRowsModel", "polyAt", "(III)J"⟩, 25), (⟨"SquaredRowsModel", "isPositive", "(I)Z"⟩, 25), (⟨"SquaredRowsModel", "belowSpot", "(III)I"⟩, 25), (⟨"SquaredRowsModel", "makeProduct", "(II)V"⟩, 25)]
theorem lw_r3 : ∀ q ∈ lw_privs_3, lw_okq q := List.forall_mem_cons.mpr ⟨lw_p32, List.forall_mem_cons.mpr ⟨lw_p33, List.forall_mem_cons.mpr ⟨lw_p34, List.forall_mem_cons.mpr ⟨lw_p35, List.forall_mem_cons.mpr ⟨lw_p36, List.forall_mem_cons.mpr ⟨lw_p37, List.forall_mem_cons.mpr ⟨lw_p38, List.forall_mem_cons.mpr ⟨lw_p39, List.forall_mem_cons.mpr ⟨lw_p40, List.forall_mem_cons.mpr ⟨lw_p41, List.forall_mem_cons.mpr ⟨lw_p42, List.forall_mem_cons.mpr ⟨lw_p43, List.forall_mem_cons.mpr ⟨lw_p44, List.forall_mem_cons.mpr ⟨lw_p45, List.forall_mem_cons.mpr ⟨lw_p46, List.forall_mem_cons.mpr ⟨lw_p47, fun _ h => absurd h List.not_mem_nil⟩⟩⟩⟩⟩⟩⟩⟩⟩⟩⟩⟩⟩⟩⟩⟩
theorem lw_p48 : lw_okq (⟨"SquaredRowsModel", "readText", "()I"⟩, 25) := ⟨⟨by decide +kernel, by decide +kernel⟩, List.mem_of_getElem? (i := 609) (by decide +kernel), List.mem_of_getElem? (i := 938) (by decide +kernel), List.mem_of_getElem? (i := 939) (by decide +kernel)⟩
theorem lw_p49 : lw_okq (⟨"SquaredRowsModel", "readByte", "(I)Z"⟩, 25) := ⟨⟨by decide +kernel, by decide +kernel⟩, List.mem_of_getElem? (i := 609) (by decide +kernel), List.mem_of_getElem? (i := 942) (by decide +kernel), List.mem_of_getElem? (i := 943) (by decide +kernel)⟩
theorem lw_p50 : lw_okq (⟨"SquaredRowsModel", "beginNumber", "(Z)Z"⟩, 25) := ⟨⟨by decide +kernel, by decide +kernel⟩, List.mem_of_getElem? (i := 609) (by decide +kernel), List.mem_of_getElem? (i := 951) (by decide +kernel), List.mem_of_getElem? (i := 952) (by decide +kernel)⟩
theorem lw_p51 : lw_okq (⟨"SquaredRowsModel", "doOrder", "(I)Z"⟩, 25) := ⟨⟨by decide +kernel, by decide +kernel⟩, List.mem_of_getElem? (i := 609) (by decide +kernel), List.mem_of_getElem? (i := 961) (by decide +kernel), List.mem_of_getElem? (i := 962) (by decide +kernel)⟩
theorem lw_p52 : lw_okq (⟨"SquaredRowsModel", "becomeRow", "(II)Z"⟩, 25) := ⟨⟨by decide +kernel, by decide +kernel⟩, List.mem_of_getElem? (i := 609) (by decide +kernel), List.mem_of_getElem? (i := 965) (by decide +kernel), List.mem_of_getElem? (i := 966) (by decide +kernel)⟩
theorem lw_p53 : lw_okq (⟨"SquaredRowsModel", "toldOf", "(I)I"⟩, 25) := ⟨⟨by decide +kernel, by decide +kernel⟩, List.mem_of_getElem? (i := 609) (by decide +kernel), List.mem_of_getElem? (i := 974) (by decide +kernel), List.mem_of_getElem? (i := 975) (by decide +kernel)⟩
def lw_privs_4 : List (MethodName × Nat) := [(⟨"SquaredRowsModel", "readText", "()I"⟩, 25), (⟨"SquaredRowsModel", "readByte", "(I)Z"⟩, 25), (⟨"SquaredRowsModel", "beginNumber", "(Z)Z"⟩, 25), (⟨"SquaredRowsModel", "doOrder", "(I)Z"⟩, 25), (⟨"SquaredRowsModel", "becomeRow", "(II)Z"⟩, 25), (⟨"SquaredRowsModel", "toldOf", "(I)I"⟩, 25)]
theorem lw_r4 : ∀ q ∈ lw_privs_4, lw_okq q := List.forall_mem_cons.mpr ⟨lw_p48, List.forall_mem_cons.mpr ⟨lw_p49, List.forall_mem_cons.mpr ⟨lw_p50, List.forall_mem_cons.mpr ⟨lw_p51, List.forall_mem_cons.mpr ⟨lw_p52, List.forall_mem_cons.mpr ⟨lw_p53, fun _ h => absurd h List.not_mem_nil⟩⟩⟩⟩⟩⟩
def lw_privs : List (MethodName × Nat) := lw_privs_1 ++ (lw_privs_2 ++ (lw_privs_3 ++ (lw_privs_4)))
def lw_tbl : List Cond := k2_sels lw_privs ++ tables_1
theorem lw_privs_ok : ∀ q ∈ lw_privs, lw_okq q := by
  show ∀ q ∈ lw_privs_1 ++ (lw_privs_2 ++ (lw_privs_3 ++ (lw_privs_4))), lw_okq q
  exact List.forall_mem_append.mpr ⟨lw_r1, List.forall_mem_append.mpr ⟨lw_r2, List.forall_mem_append.mpr ⟨lw_r3, lw_r4⟩⟩⟩
end
section
def RX0 : String := "SquaredRows$Minors"
def TX0 : u_T := fun k => match k with
  | 0 => ("SquaredRows$Minors", "minors", "[J", true)
  | _ => ("SquaredRows$Minors", "count", "I", false)
def tyX0 : Nat → FieldType := fun k => match k with
  | 0 => .array .long
  | _ => .int
abbrev wsX00 : List Cond := u_ws RX0 TX0 2
theorem nmX0 : ∀ a, a < 2 → ∀ b, b < 2 → a ≠ b → (TX0 a).2.1 ≠ (TX0 b).2.1 := by decide +kernel
theorem tyX0_ok : ∀ k, k < 2 → parseFieldDescriptor (TX0 k).2.2.1 = some (tyX0 k) := by decide +kernel
abbrev cX0_init : ByteArray := prog_2_method_1_code
def yX0_init : MethodName := ⟨RX0, "<init>", "()V"⟩
abbrev cX0_fill : ByteArray := prog_2_method_2_code
def yX0_fill : MethodName := ⟨RX0, "fill", "(LSquaredRows$Row;I)V"⟩
abbrev cX0_expand : ByteArray := prog_2_method_3_code
def yX0_expand : MethodName := ⟨RX0, "expand", "(LSquaredRows$Row;II)J"⟩
abbrev cX0_minor : ByteArray := prog_2_method_4_code
def yX0_minor : MethodName := ⟨RX0, "minor", "(I)J"⟩
abbrev cX0_det : ByteArray := prog_2_method_5_code
def yX0_det : MethodName := ⟨RX0, "det", "(I)J"⟩
abbrev cX0_hasPolynomial : ByteArray := prog_2_method_6_code
def yX0_hasPolynomial : MethodName := ⟨RX0, "hasPolynomial", "(I)Z"⟩
abbrev cX0_coefficient : ByteArray := prog_2_method_7_code
def yX0_coefficient : MethodName := ⟨RX0, "coefficient", "(II)J"⟩
abbrev cX0_evaluate : ByteArray := prog_2_method_8_code
def yX0_evaluate : MethodName := ⟨RX0, "evaluate", "(III)J"⟩
abbrev cX0_meanTimesPower : ByteArray := prog_2_method_9_code
def yX0_meanTimesPower : MethodName := ⟨RX0, "meanTimesPower", "(LSquaredRows$Row;II)J"⟩
abbrev cX0_quotientMean : ByteArray := prog_2_method_10_code
def yX0_quotientMean : MethodName := ⟨RX0, "quotientMean", "(LSquaredRows$Row;III)J"⟩
abbrev cX0_zerosBelow : ByteArray := prog_2_method_11_code
def yX0_zerosBelow : MethodName := ⟨RX0, "zerosBelow", "(III)I"⟩
def RX1 : String := "SquaredRows$Product"
def TX1 : u_T := fun k => match k with
  | 0 => ("SquaredRows$Product", "numbers", "[J", true)
  | _ => ("SquaredRows$Product", "degree", "I", false)
def tyX1 : Nat → FieldType := fun k => match k with
  | 0 => .array .long
  | _ => .int
abbrev wsX10 : List Cond := u_ws RX1 TX1 2
theorem nmX1 : ∀ a, a < 2 → ∀ b, b < 2 → a ≠ b → (TX1 a).2.1 ≠ (TX1 b).2.1 := by decide +kernel
theorem tyX1_ok : ∀ k, k < 2 → parseFieldDescriptor (TX1 k).2.2.1 = some (tyX1 k) := by decide +kernel
abbrev cX1_init : ByteArray := prog_3_method_1_code
def yX1_init : MethodName := ⟨RX1, "<init>", "()V"⟩
abbrev cX1_degree : ByteArray := prog_3_method_2_code
def yX1_degree : MethodName := ⟨RX1, "degree", "()I"⟩
abbrev cX1_number : ByteArray := prog_3_method_3_code
def yX1_number : MethodName := ⟨RX1, "number", "(I)J"⟩
abbrev cX1_begin : ByteArray := prog_3_method_4_code
def yX1_begin : MethodName := ⟨RX1, "begin", "()V"⟩
abbrev cX1_times : ByteArray := prog_3_method_5_code
def yX1_times : MethodName := ⟨RX1, "times", "(I)V"⟩
abbrev cX1_vanishAt : ByteArray := prog_3_method_6_code
def yX1_vanishAt : MethodName := ⟨RX1, "vanishAt", "(I)V"⟩
abbrev cX1_evaluate : ByteArray := prog_3_method_7_code
def yX1_evaluate : MethodName := ⟨RX1, "evaluate", "(I)J"⟩
def RX2 : String := "SquaredRows$Reader"
def TX2 : u_T := fun k => match k with
  | 0 => ("SquaredRows$Reader", "kinds", "[I", true)
  | 1 => ("SquaredRows$Reader", "starts", "[I", true)
  | 2 => ("SquaredRows$Reader", "numbers", "[I", true)
  | 3 => ("SquaredRows$Reader", "orders", "I", false)
  | 4 => ("SquaredRows$Reader", "taken", "I", false)
  | 5 => ("SquaredRows$Reader", "kind", "I", false)
  | 6 => ("SquaredRows$Reader", "minus", "Z", false)
  | 7 => ("SquaredRows$Reader", "figures", "I", false)
  | _ => ("SquaredRows$Reader", "size", "I", false)
def tyX2 : Nat → FieldType := fun k => match k with
  | 0 => .array .int
  | 1 => .array .int
  | 2 => .array .int
  | 3 => .int
  | 4 => .int
  | 5 => .int
  | 6 => .boolean
  | 7 => .int
  | _ => .int
abbrev wsX20 : List Cond := u_ws RX2 TX2 9
theorem nmX2 : ∀ a, a < 9 → ∀ b, b < 9 → a ≠ b → (TX2 a).2.1 ≠ (TX2 b).2.1 := by decide +kernel
theorem tyX2_ok : ∀ k, k < 9 → parseFieldDescriptor (TX2 k).2.2.1 = some (tyX2 k) := by decide +kernel
abbrev cX2_init : ByteArray := prog_4_method_1_code
def yX2_init : MethodName := ⟨RX2, "<init>", "()V"⟩
abbrev cX2_orders : ByteArray := prog_4_method_2_code
def yX2_orders : MethodName := ⟨RX2, "orders", "()I"⟩
abbrev cX2_number : ByteArray := prog_4_method_3_code
def yX2_number : MethodName := ⟨RX2, "number", "(I)I"⟩
abbrev cX2_scan : ByteArray := prog_4_method_4_code
def yX2_scan : MethodName := ⟨RX2, "scan", "(LSquaredRows$Text;)I"⟩
abbrev cX2_accept : ByteArray := prog_4_method_5_code
def yX2_accept : MethodName := ⟨RX2, "accept", "(I)Z"⟩
abbrev cX2_acceptFigure : ByteArray := prog_4_method_6_code
def yX2_acceptFigure : MethodName := ⟨RX2, "acceptFigure", "(I)Z"⟩
abbrev cX2_openOrder : ByteArray := prog_4_method_7_code
def yX2_openOrder : MethodName := ⟨RX2, "openOrder", "(I)Z"⟩
abbrev cX2_closeOrder : ByteArray := prog_4_method_8_code
def yX2_closeOrder : MethodName := ⟨RX2, "closeOrder", "()Z"⟩
abbrev cX2_closeNumber : ByteArray := prog_4_method_9_code
def yX2_closeNumber : MethodName := ⟨RX2, "closeNumber", "()V"⟩
abbrev cX2_forgetNumber : ByteArray := prog_4_method_10_code
def yX2_forgetNumber : MethodName := ⟨RX2, "forgetNumber", "()V"⟩
abbrev cX2_given : ByteArray := prog_4_method_11_code
def yX2_given : MethodName := ⟨RX2, "given", "()I"⟩
abbrev cX2_mostNumbers : ByteArray := prog_4_method_12_code
def yX2_mostNumbers : MethodName := ⟨RX2, "mostNumbers", "(I)I"⟩
abbrev cX2_leastNumbers : ByteArray := prog_4_method_13_code
def yX2_leastNumbers : MethodName := ⟨RX2, "leastNumbers", "(I)I"⟩
abbrev cX2_perform : ByteArray := prog_4_method_14_code
def yX2_perform : MethodName := ⟨RX2, "perform", "(LSquaredRows$Row;)I"⟩
abbrev cX2_performOne : ByteArray := prog_4_method_15_code
def yX2_performOne : MethodName := ⟨RX2, "performOne", "(LSquaredRows$Row;I)I"⟩
def RX3 : String := "SquaredRows$Row"
def TX3 : u_T := fun k => match k with
  | 0 => ("SquaredRows$Row", "moments", "[I", true)
  | 1 => ("SquaredRows$Row", "next", "[J", true)
  | 2 => ("SquaredRows$Row", "power", "LSquaredRows$Product;", true)
  | _ => ("SquaredRows$Row", "count", "I", false)
def tyX3 : Nat → FieldType := fun k => match k with
  | 0 => .array .int
  | 1 => .array .long
  | 2 => .object "SquaredRows$Product"
  | _ => .int
abbrev wsX30 : List Cond := u_ws RX3 TX3 4
theorem nmX3 : ∀ a, a < 4 → ∀ b, b < 4 → a ≠ b → (TX3 a).2.1 ≠ (TX3 b).2.1 := by decide +kernel
theorem tyX3_ok : ∀ k, k < 4 → parseFieldDescriptor (TX3 k).2.2.1 = some (tyX3 k) := by decide +kernel
abbrev cX3_init : ByteArray := prog_5_method_1_code
def yX3_init : MethodName := ⟨RX3, "<init>", "()V"⟩
abbrev cX3_size : ByteArray := prog_5_method_2_code
def yX3_size : MethodName := ⟨RX3, "size", "()I"⟩
abbrev cX3_at : ByteArray := prog_5_method_3_code
def yX3_at : MethodName := ⟨RX3, "at", "(I)I"⟩
abbrev cX3_hasTable : ByteArray := prog_5_method_4_code
def yX3_hasTable : MethodName := ⟨RX3, "hasTable", "(II)Z"⟩
abbrev cX3_mean : ByteArray := prog_5_method_5_code
def yX3_mean : MethodName := ⟨RX3, "mean", "(LSquaredRows$Product;I)J"⟩
abbrev cX3_copy : ByteArray := prog_5_method_6_code
def yX3_copy : MethodName := ⟨RX3, "copy", "(LSquaredRows$Row;)V"⟩
abbrev cX3_put : ByteArray := prog_5_method_7_code
def yX3_put : MethodName := ⟨RX3, "put", "(II)I"⟩
abbrev cX3_append : ByteArray := prog_5_method_8_code
def yX3_append : MethodName := ⟨RX3, "append", "(I)I"⟩
abbrev cX3_drop : ByteArray := prog_5_method_9_code
def yX3_drop : MethodName := ⟨RX3, "drop", "()I"⟩
abbrev cX3_addPlace : ByteArray := prog_5_method_10_code
def yX3_addPlace : MethodName := ⟨RX3, "addPlace", "(II)I"⟩
abbrev cX3_shift : ByteArray := prog_5_method_11_code
def yX3_shift : MethodName := ⟨RX3, "shift", "(I)I"⟩
abbrev cX3_scale : ByteArray := prog_5_method_12_code
def yX3_scale : MethodName := ⟨RX3, "scale", "(I)I"⟩
abbrev cX3_reweigh : ByteArray := prog_5_method_13_code
def yX3_reweigh : MethodName := ⟨RX3, "reweigh", "(I)I"⟩
abbrev cX3_replace : ByteArray := prog_5_method_14_code
def yX3_replace : MethodName := ⟨RX3, "replace", "(LSquaredRows$Reader;II)I"⟩
abbrev cX3_takeNext : ByteArray := prog_5_method_15_code
def yX3_takeNext : MethodName := ⟨RX3, "takeNext", "(I)I"⟩
abbrev cX3_save : ByteArray := prog_5_method_16_code
def yX3_save : MethodName := ⟨RX3, "save", "([II)V"⟩
abbrev cX3_load : ByteArray := prog_5_method_17_code
def yX3_load : MethodName := ⟨RX3, "load", "([II)V"⟩
abbrev cX3_isNoMoment : ByteArray := prog_5_method_18_code
def yX3_isNoMoment : MethodName := ⟨RX3, "isNoMoment", "(I)Z"⟩
abbrev cX3_isNoShift : ByteArray := prog_5_method_19_code
def yX3_isNoShift : MethodName := ⟨RX3, "isNoShift", "(I)Z"⟩
def RX4 : String := "SquaredRows$States"
def TX4 : u_T := fun k => match k with
  | 0 => ("SquaredRows$States", "saved", "[I", true)
  | 1 => ("SquaredRows$States", "oldest", "I", false)
  | _ => ("SquaredRows$States", "depth", "I", false)
def tyX4 : Nat → FieldType := fun k => match k with
  | 0 => .array .int
  | 1 => .int
  | _ => .int
abbrev wsX40 : List Cond := u_ws RX4 TX4 3
theorem nmX4 : ∀ a, a < 3 → ∀ b, b < 3 → a ≠ b → (TX4 a).2.1 ≠ (TX4 b).2.1 := by decide +kernel
theorem tyX4_ok : ∀ k, k < 3 → parseFieldDescriptor (TX4 k).2.2.1 = some (tyX4 k) := by decide +kernel
abbrev cX4_init : ByteArray := prog_6_method_1_code
def yX4_init : MethodName := ⟨RX4, "<init>", "()V"⟩
abbrev cX4_depth : ByteArray := prog_6_method_2_code
def yX4_depth : MethodName := ⟨RX4, "depth", "()I"⟩
abbrev cX4_push : ByteArray := prog_6_method_3_code
def yX4_push : MethodName := ⟨RX4, "push", "(LSquaredRows$Row;)V"⟩
abbrev cX4_pop : ByteArray := prog_6_method_4_code
def yX4_pop : MethodName := ⟨RX4, "pop", "(LSquaredRows$Row;)V"⟩
abbrev cX4_place : ByteArray := prog_6_method_5_code
def yX4_place : MethodName := ⟨RX4, "place", "(I)I"⟩
def RX5 : String := "SquaredRows$Text"
def TX5 : u_T := fun k => match k with
  | 0 => ("SquaredRows$Text", "bytes", "[B", true)
  | _ => ("SquaredRows$Text", "length", "I", false)
def tyX5 : Nat → FieldType := fun k => match k with
  | 0 => .array .byte
  | _ => .int
abbrev wsX50 : List Cond := u_ws RX5 TX5 2
theorem nmX5 : ∀ a, a < 2 → ∀ b, b < 2 → a ≠ b → (TX5 a).2.1 ≠ (TX5 b).2.1 := by decide +kernel
theorem tyX5_ok : ∀ k, k < 2 → parseFieldDescriptor (TX5 k).2.2.1 = some (tyX5 k) := by decide +kernel
abbrev cX5_init : ByteArray := prog_7_method_1_code
def yX5_init : MethodName := ⟨RX5, "<init>", "()V"⟩
abbrev cX5_length : ByteArray := prog_7_method_2_code
def yX5_length : MethodName := ⟨RX5, "length", "()I"⟩
abbrev cX5_at : ByteArray := prog_7_method_3_code
def yX5_at : MethodName := ⟨RX5, "at", "(I)I"⟩
abbrev cX5_append : ByteArray := prog_7_method_4_code
def yX5_append : MethodName := ⟨RX5, "append", "(I)Z"⟩
abbrev cX5_empty : ByteArray := prog_7_method_5_code
def yX5_empty : MethodName := ⟨RX5, "empty", "()V"⟩
def RX6 : String := "SquaredRows"
def TX6 : u_T := fun k => match k with
  | 0 => ("SquaredRows", "row", "LSquaredRows$Row;", true)
  | 1 => ("SquaredRows", "trial", "LSquaredRows$Row;", true)
  | 2 => ("SquaredRows", "minors", "LSquaredRows$Minors;", true)
  | 3 => ("SquaredRows", "shiftedMinors", "LSquaredRows$Minors;", true)
  | 4 => ("SquaredRows", "product", "LSquaredRows$Product;", true)
  | 5 => ("SquaredRows", "states", "LSquaredRows$States;", true)
  | 6 => ("SquaredRows", "text", "LSquaredRows$Text;", true)
  | 7 => ("SquaredRows", "reader", "LSquaredRows$Reader;", true)
  | 8 => ("SquaredRows", "findings", "[I", true)
  | 9 => ("SquaredRows", "timesBad", "I", false)
  | 10 => ("SquaredRows", "timesNo", "I", false)
  | _ => ("SquaredRows", "timesFull", "I", false)
def tyX6 : Nat → FieldType := fun k => match k with
  | 0 => .object "SquaredRows$Row"
  | 1 => .object "SquaredRows$Row"
  | 2 => .object "SquaredRows$Minors"
  | 3 => .object "SquaredRows$Minors"
  | 4 => .object "SquaredRows$Product"
  | 5 => .object "SquaredRows$States"
  | 6 => .object "SquaredRows$Text"
  | 7 => .object "SquaredRows$Reader"
  | 8 => .array .int
  | 9 => .int
  | 10 => .int
  | _ => .int
abbrev wsX60 : List Cond := u_ws RX6 TX6 12
theorem nmX6 : ∀ a, a < 12 → ∀ b, b < 12 → a ≠ b → (TX6 a).2.1 ≠ (TX6 b).2.1 := by decide +kernel
theorem tyX6_ok : ∀ k, k < 12 → parseFieldDescriptor (TX6 k).2.2.1 = some (tyX6 k) := by decide +kernel
abbrev cX6_init : ByteArray := prog_1_method_1_code
def yX6_init : MethodName := ⟨RX6, "<init>", "()V"⟩
abbrev cX6_moment : ByteArray := prog_1_method_2_code
def yX6_moment : MethodName := ⟨RX6, "moment", "(II)I"⟩
abbrev cX6_more : ByteArray := prog_1_method_3_code
def yX6_more : MethodName := ⟨RX6, "more", "(I)I"⟩
abbrev cX6_less : ByteArray := prog_1_method_4_code
def yX6_less : MethodName := ⟨RX6, "less", "()I"⟩
abbrev cX6_adds : ByteArray := prog_1_method_5_code
def yX6_adds : MethodName := ⟨RX6, "adds", "(II)I"⟩
abbrev cX6_moves : ByteArray := prog_1_method_6_code
def yX6_moves : MethodName := ⟨RX6, "moves", "(I)I"⟩
abbrev cX6_stretches : ByteArray := prog_1_method_7_code
def yX6_stretches : MethodName := ⟨RX6, "stretches", "(I)I"⟩
abbrev cX6_weighs : ByteArray := prog_1_method_8_code
def yX6_weighs : MethodName := ⟨RX6, "weighs", "(I)I"⟩
abbrev cX6_of : ByteArray := prog_1_method_9_code
def yX6_of : MethodName := ⟨RX6, "of", "(I)I"⟩
abbrev cX6_determinant : ByteArray := prog_1_method_10_code
def yX6_determinant : MethodName := ⟨RX6, "determinant", "(II)J"⟩
abbrev cX6_polynomial : ByteArray := prog_1_method_11_code
def yX6_polynomial : MethodName := ⟨RX6, "polynomial", "(III)J"⟩
abbrev cX6_norm : ByteArray := prog_1_method_12_code
def yX6_norm : MethodName := ⟨RX6, "norm", "(II)J"⟩
abbrev cX6_rule : ByteArray := prog_1_method_13_code
def yX6_rule : MethodName := ⟨RX6, "rule", "(III)J"⟩
abbrev cX6_verdict : ByteArray := prog_1_method_14_code
def yX6_verdict : MethodName := ⟨RX6, "verdict", "(I)I"⟩
abbrev cX6_value : ByteArray := prog_1_method_15_code
def yX6_value : MethodName := ⟨RX6, "value", "(IIII)J"⟩
abbrev cX6_under : ByteArray := prog_1_method_16_code
def yX6_under : MethodName := ⟨RX6, "under", "(III)I"⟩
abbrev cX6_zero : ByteArray := prog_1_method_17_code
def yX6_zero : MethodName := ⟨RX6, "zero", "(III)I"⟩
abbrev cX6_weight : ByteArray := prog_1_method_18_code
def yX6_weight : MethodName := ⟨RX6, "weight", "(III)J"⟩
abbrev cX6_exact : ByteArray := prog_1_method_19_code
def yX6_exact : MethodName := ⟨RX6, "exact", "(I)I"⟩
abbrev cX6_fraction : ByteArray := prog_1_method_20_code
def yX6_fraction : MethodName := ⟨RX6, "fraction", "(IIII)J"⟩
abbrev cX6_step : ByteArray := prog_1_method_21_code
def yX6_step : MethodName := ⟨RX6, "step", "(II)J"⟩
abbrev cX6_type : ByteArray := prog_1_method_22_code
def yX6_type : MethodName := ⟨RX6, "type", "(I)I"⟩
abbrev cX6_clear : ByteArray := prog_1_method_23_code
def yX6_clear : MethodName := ⟨RX6, "clear", "()I"⟩
abbrev cX6_reads : ByteArray := prog_1_method_24_code
def yX6_reads : MethodName := ⟨RX6, "reads", "()I"⟩
abbrev cX6_back : ByteArray := prog_1_method_25_code
def yX6_back : MethodName := ⟨RX6, "back", "()I"⟩
abbrev cX6_told : ByteArray := prog_1_method_26_code
def yX6_told : MethodName := ⟨RX6, "told", "(I)I"⟩
abbrev cX6_digest : ByteArray := prog_1_method_27_code
def yX6_digest : MethodName := ⟨RX6, "digest", "()J"⟩
abbrev cX6_refuse : ByteArray := prog_1_method_28_code
def yX6_refuse : MethodName := ⟨RX6, "refuse", "(I)I"⟩
abbrev cX6_keepTrial : ByteArray := prog_1_method_29_code
def yX6_keepTrial : MethodName := ⟨RX6, "keepTrial", "()V"⟩
abbrev cX6_tally : ByteArray := prog_1_method_30_code
def yX6_tally : MethodName := ⟨RX6, "tally", "(I)I"⟩
abbrev cX6_digestPolynomial : ByteArray := prog_1_method_31_code
def yX6_digestPolynomial : MethodName := ⟨RX6, "digestPolynomial", "(JI)J"⟩
abbrev cX6_findPolynomial : ByteArray := prog_1_method_32_code
def yX6_findPolynomial : MethodName := ⟨RX6, "findPolynomial", "(I)Z"⟩
abbrev cX6_findRule : ByteArray := prog_1_method_33_code
def yX6_findRule : MethodName := ⟨RX6, "findRule", "(I)Z"⟩
abbrev cX6_findZeros : ByteArray := prog_1_method_34_code
def yX6_findZeros : MethodName := ⟨RX6, "findZeros", "(I)Z"⟩
abbrev cX6_enclose : ByteArray := prog_1_method_35_code
def yX6_enclose : MethodName := ⟨RX6, "enclose", "(III)I"⟩
abbrev cX6_judge : ByteArray := prog_1_method_36_code
def yX6_judge : MethodName := ⟨RX6, "judge", "()V"⟩
abbrev cX6_find : ByteArray := prog_1_method_37_code
def yX6_find : MethodName := ⟨RX6, "find", "(IIII)V"⟩
abbrev cX6_findRest : ByteArray := prog_1_method_38_code
def yX6_findRest : MethodName := ⟨RX6, "findRest", "(I)I"⟩
abbrev cX6_isOutside : ByteArray := prog_1_method_39_code
def yX6_isOutside : MethodName := ⟨RX6, "isOutside", "(III)Z"⟩
abbrev cX6_isNoPoint : ByteArray := prog_1_method_40_code
def yX6_isNoPoint : MethodName := ⟨RX6, "isNoPoint", "(II)Z"⟩
abbrev cX6_isNoSet : ByteArray := prog_1_method_41_code
def yX6_isNoSet : MethodName := ⟨RX6, "isNoSet", "(I)Z"⟩
abbrev cX6_bitOf : ByteArray := prog_1_method_42_code
def yX6_bitOf : MethodName := ⟨RX6, "bitOf", "(I)I"⟩
abbrev cX6_signOf : ByteArray := prog_1_method_43_code
def yX6_signOf : MethodName := ⟨RX6, "signOf", "(J)I"⟩
abbrev cX6_power : ByteArray := prog_1_method_44_code
def yX6_power : MethodName := ⟨RX6, "power", "(JI)J"⟩
abbrev cX6_part : ByteArray := prog_1_method_45_code
def yX6_part : MethodName := ⟨RX6, "part", "(JJI)J"⟩
abbrev cX6_commonDivisor : ByteArray := prog_1_method_46_code
def yX6_commonDivisor : MethodName := ⟨RX6, "commonDivisor", "(JJ)J"⟩
def RX7 : String := "SquaredRowsModel"
def TX7 : u_T := fun k => match k with
  | 0 => ("SquaredRowsModel", "row", "[I", true)
  | 1 => ("SquaredRowsModel", "aside", "[I", true)
  | 2 => ("SquaredRowsModel", "past", "[I", true)
  | 3 => ("SquaredRowsModel", "states", "I", false)
  | 4 => ("SquaredRowsModel", "refused", "[I", true)
  | 5 => ("SquaredRowsModel", "text", "[I", true)
  | 6 => ("SquaredRowsModel", "bytes", "I", false)
  | 7 => ("SquaredRowsModel", "orderLetter", "[I", true)
  | 8 => ("SquaredRowsModel", "orderFrom", "[I", true)
  | 9 => ("SquaredRowsModel", "numbers", "[I", true)
  | 10 => ("SquaredRowsModel", "orders", "I", false)
  | 11 => ("SquaredRowsModel", "made", "[J", true)
  | 12 => ("SquaredRowsModel", "table", "[J", true)
  | 13 => ("SquaredRowsModel", "poly", "[J", true)
  | 14 => ("SquaredRowsModel", "polyBelow", "J", false)
  | 15 => ("SquaredRowsModel", "verdicts", "[I", true)
  | 16 => ("SquaredRowsModel", "product", "[J", true)
  | 17 => ("SquaredRowsModel", "productMany", "I", false)
  | 18 => ("SquaredRowsModel", "rest", "[J", true)
  | 19 => ("SquaredRowsModel", "letter", "I", false)
  | 20 => ("SquaredRowsModel", "begun", "I", false)
  | 21 => ("SquaredRowsModel", "figures", "I", false)
  | 22 => ("SquaredRowsModel", "isWaiting", "Z", false)
  | 23 => ("SquaredRowsModel", "isBelow", "Z", false)
  | _ => ("SquaredRowsModel", "all", "I", false)
def tyX7 : Nat → FieldType := fun k => match k with
  | 0 => .array .int
  | 1 => .array .int
  | 2 => .array .int
  | 3 => .int
  | 4 => .array .int
  | 5 => .array .int
  | 6 => .int
  | 7 => .array .int
  | 8 => .array .int
  | 9 => .array .int
  | 10 => .int
  | 11 => .array .long
  | 12 => .array .long
  | 13 => .array .long
  | 14 => .long
  | 15 => .array .int
  | 16 => .array .long
  | 17 => .int
  | 18 => .array .long
  | 19 => .int
  | 20 => .int
  | 21 => .int
  | 22 => .boolean
  | 23 => .boolean
  | _ => .int
abbrev wsX70 : List Cond := u_ws RX7 TX7 25
theorem nmX7 : ∀ a, a < 25 → ∀ b, b < 25 → a ≠ b → (TX7 a).2.1 ≠ (TX7 b).2.1 := by decide +kernel
theorem tyX7_ok : ∀ k, k < 25 → parseFieldDescriptor (TX7 k).2.2.1 = some (tyX7 k) := by decide +kernel
abbrev cX7_init : ByteArray := prog_9_method_1_code
def yX7_init : MethodName := ⟨RX7, "<init>", "()V"⟩
abbrev cX7_in : ByteArray := prog_9_method_2_code
def yX7_in : MethodName := ⟨RX7, "in", "(JJJ)Z"⟩
abbrev cX7_bad : ByteArray := prog_9_method_3_code
def yX7_bad : MethodName := ⟨RX7, "bad", "()I"⟩
abbrev cX7_no : ByteArray := prog_9_method_4_code
def yX7_no : MethodName := ⟨RX7, "no", "()I"⟩
abbrev cX7_full : ByteArray := prog_9_method_5_code
def yX7_full : MethodName := ⟨RX7, "full", "()I"⟩
abbrev cX7_bring : ByteArray := prog_9_method_6_code
def yX7_bring : MethodName := ⟨RX7, "bring", "([II[II)V"⟩
abbrev cX7_note : ByteArray := prog_9_method_7_code
def yX7_note : MethodName := ⟨RX7, "note", "([I)V"⟩
abbrev cX7_last : ByteArray := prog_9_method_8_code
def yX7_last : MethodName := ⟨RX7, "last", "()I"⟩
abbrev cX7_moment : ByteArray := prog_9_method_9_code
def yX7_moment : MethodName := ⟨RX7, "moment", "(II)I"⟩
abbrev cX7_put : ByteArray := prog_9_method_10_code
def yX7_put : MethodName := ⟨RX7, "put", "(I)V"⟩
abbrev cX7_cut : ByteArray := prog_9_method_11_code
def yX7_cut : MethodName := ⟨RX7, "cut", "()V"⟩
abbrev cX7_more : ByteArray := prog_9_method_12_code
def yX7_more : MethodName := ⟨RX7, "more", "(I)I"⟩
abbrev cX7_less : ByteArray := prog_9_method_13_code
def yX7_less : MethodName := ⟨RX7, "less", "()I"⟩
abbrev cX7_power : ByteArray := prog_9_method_14_code
def yX7_power : MethodName := ⟨RX7, "power", "(JI)J"⟩
abbrev cX7_choose : ByteArray := prog_9_method_15_code
def yX7_choose : MethodName := ⟨RX7, "choose", "(II)J"⟩
abbrev cX7_takeMade : ByteArray := prog_9_method_16_code
def yX7_takeMade : MethodName := ⟨RX7, "takeMade", "(I)Z"⟩
abbrev cX7_addPlace : ByteArray := prog_9_method_17_code
def yX7_addPlace : MethodName := ⟨RX7, "addPlace", "(II)Z"⟩
abbrev cX7_move : ByteArray := prog_9_method_18_code
def yX7_move : MethodName := ⟨RX7, "move", "(I)Z"⟩
abbrev cX7_stretch : ByteArray := prog_9_method_19_code
def yX7_stretch : MethodName := ⟨RX7, "stretch", "(I)Z"⟩
abbrev cX7_weigh : ByteArray := prog_9_method_20_code
def yX7_weigh : MethodName := ⟨RX7, "weigh", "(I)Z"⟩
abbrev cX7_isPlace : ByteArray := prog_9_method_21_code
def yX7_isPlace : MethodName := ⟨RX7, "isPlace", "(I)Z"⟩
abbrev cX7_isWeight : ByteArray := prog_9_method_22_code
def yX7_isWeight : MethodName := ⟨RX7, "isWeight", "(I)Z"⟩
abbrev cX7_adds : ByteArray := prog_9_method_23_code
def yX7_adds : MethodName := ⟨RX7, "adds", "(II)I"⟩
abbrev cX7_moves : ByteArray := prog_9_method_24_code
def yX7_moves : MethodName := ⟨RX7, "moves", "(I)I"⟩
abbrev cX7_stretches : ByteArray := prog_9_method_25_code
def yX7_stretches : MethodName := ⟨RX7, "stretches", "(I)I"⟩
abbrev cX7_weighs : ByteArray := prog_9_method_26_code
def yX7_weighs : MethodName := ⟨RX7, "weighs", "(I)I"⟩
abbrev cX7_of : ByteArray := prog_9_method_27_code
def yX7_of : MethodName := ⟨RX7, "of", "(I)I"⟩
abbrev cX7_back : ByteArray := prog_9_method_28_code
def yX7_back : MethodName := ⟨RX7, "back", "()I"⟩
abbrev cX7_clearTable : ByteArray := prog_9_method_29_code
def yX7_clearTable : MethodName := ⟨RX7, "clearTable", "(I)J"⟩
abbrev cX7_isThere : ByteArray := prog_9_method_30_code
def yX7_isThere : MethodName := ⟨RX7, "isThere", "(II)Z"⟩
abbrev cX7_detOf : ByteArray := prog_9_method_31_code
def yX7_detOf : MethodName := ⟨RX7, "detOf", "(II)J"⟩
abbrev cX7_determinant : ByteArray := prog_9_method_32_code
def yX7_determinant : MethodName := ⟨RX7, "determinant", "(II)J"⟩
abbrev cX7_common : ByteArray := prog_9_method_33_code
def yX7_common : MethodName := ⟨RX7, "common", "(JJ)J"⟩
abbrev cX7_part : ByteArray := prog_9_method_34_code
def yX7_part : MethodName := ⟨RX7, "part", "(JJI)J"⟩
abbrev cX7_isPart : ByteArray := prog_9_method_35_code
def yX7_isPart : MethodName := ⟨RX7, "isPart", "(I)Z"⟩
abbrev cX7_isPoly : ByteArray := prog_9_method_36_code
def yX7_isPoly : MethodName := ⟨RX7, "isPoly", "(I)Z"⟩
abbrev cX7_makePoly : ByteArray := prog_9_method_37_code
def yX7_makePoly : MethodName := ⟨RX7, "makePoly", "(I)V"⟩
abbrev cX7_polynomial : ByteArray := prog_9_method_38_code
def yX7_polynomial : MethodName := ⟨RX7, "polynomial", "(III)J"⟩
abbrev cX7_isNorm : ByteArray := prog_9_method_39_code
def yX7_isNorm : MethodName := ⟨RX7, "isNorm", "(I)Z"⟩
abbrev cX7_norm : ByteArray := prog_9_method_40_code
def yX7_norm : MethodName := ⟨RX7, "norm", "(II)J"⟩
abbrev cX7_rule : ByteArray := prog_9_method_41_code
def yX7_rule : MethodName := ⟨RX7, "rule", "(III)J"⟩
abbrev cX7_meanWith : ByteArray := prog_9_method_42_code
def yX7_meanWith : MethodName := ⟨RX7, "meanWith", "(II)J"⟩
abbrev cX7_judge : ByteArray := prog_9_method_43_code
def yX7_judge : MethodName := ⟨RX7, "judge", "()V"⟩
abbrev cX7_verdict : ByteArray := prog_9_method_44_code
def yX7_verdict : MethodName := ⟨RX7, "verdict", "(I)I"⟩
abbrev cX7_polyAt : ByteArray := prog_9_method_45_code
def yX7_polyAt : MethodName := ⟨RX7, "polyAt", "(III)J"⟩
abbrev cX7_isSpot : ByteArray := prog_9_method_46_code
def yX7_isSpot : MethodName := ⟨RX7, "isSpot", "(II)Z"⟩
abbrev cX7_value : ByteArray := prog_9_method_47_code
def yX7_value : MethodName := ⟨RX7, "value", "(IIII)J"⟩
abbrev cX7_isPositive : ByteArray := prog_9_method_48_code
def yX7_isPositive : MethodName := ⟨RX7, "isPositive", "(I)Z"⟩
abbrev cX7_belowSpot : ByteArray := prog_9_method_49_code
def yX7_belowSpot : MethodName := ⟨RX7, "belowSpot", "(III)I"⟩
abbrev cX7_under : ByteArray := prog_9_method_50_code
def yX7_under : MethodName := ⟨RX7, "under", "(III)I"⟩
abbrev cX7_zero : ByteArray := prog_9_method_51_code
def yX7_zero : MethodName := ⟨RX7, "zero", "(III)I"⟩
abbrev cX7_size : ByteArray := prog_9_method_52_code
def yX7_size : MethodName := ⟨RX7, "size", "(I)I"⟩
abbrev cX7_isSet : ByteArray := prog_9_method_53_code
def yX7_isSet : MethodName := ⟨RX7, "isSet", "(I)Z"⟩
abbrev cX7_makeProduct : ByteArray := prog_9_method_54_code
def yX7_makeProduct : MethodName := ⟨RX7, "makeProduct", "(II)V"⟩
abbrev cX7_weight : ByteArray := prog_9_method_55_code
def yX7_weight : MethodName := ⟨RX7, "weight", "(III)J"⟩
abbrev cX7_exact : ByteArray := prog_9_method_56_code
def yX7_exact : MethodName := ⟨RX7, "exact", "(I)I"⟩
abbrev cX7_fraction : ByteArray := prog_9_method_57_code
def yX7_fraction : MethodName := ⟨RX7, "fraction", "(IIII)J"⟩
abbrev cX7_step : ByteArray := prog_9_method_58_code
def yX7_step : MethodName := ⟨RX7, "step", "(II)J"⟩
abbrev cX7_type : ByteArray := prog_9_method_59_code
def yX7_type : MethodName := ⟨RX7, "type", "(I)I"⟩
abbrev cX7_clear : ByteArray := prog_9_method_60_code
def yX7_clear : MethodName := ⟨RX7, "clear", "()I"⟩
abbrev cX7_mostNumbers : ByteArray := prog_9_method_61_code
def yX7_mostNumbers : MethodName := ⟨RX7, "mostNumbers", "(I)I"⟩
abbrev cX7_leastNumbers : ByteArray := prog_9_method_62_code
def yX7_leastNumbers : MethodName := ⟨RX7, "leastNumbers", "(I)I"⟩
abbrev cX7_isLetter : ByteArray := prog_9_method_63_code
def yX7_isLetter : MethodName := ⟨RX7, "isLetter", "(I)Z"⟩
abbrev cX7_beginNumber : ByteArray := prog_9_method_64_code
def yX7_beginNumber : MethodName := ⟨RX7, "beginNumber", "(Z)Z"⟩
abbrev cX7_readByte : ByteArray := prog_9_method_65_code
def yX7_readByte : MethodName := ⟨RX7, "readByte", "(I)Z"⟩
abbrev cX7_readText : ByteArray := prog_9_method_66_code
def yX7_readText : MethodName := ⟨RX7, "readText", "()I"⟩
abbrev cX7_becomeRow : ByteArray := prog_9_method_67_code
def yX7_becomeRow : MethodName := ⟨RX7, "becomeRow", "(II)Z"⟩
abbrev cX7_doOrder : ByteArray := prog_9_method_68_code
def yX7_doOrder : MethodName := ⟨RX7, "doOrder", "(I)Z"⟩
abbrev cX7_reads : ByteArray := prog_9_method_69_code
def yX7_reads : MethodName := ⟨RX7, "reads", "()I"⟩
abbrev cX7_toldOf : ByteArray := prog_9_method_70_code
def yX7_toldOf : MethodName := ⟨RX7, "toldOf", "(I)I"⟩
abbrev cX7_told : ByteArray := prog_9_method_71_code
def yX7_told : MethodName := ⟨RX7, "told", "(I)I"⟩
abbrev cX7_digest : ByteArray := prog_9_method_72_code
def yX7_digest : MethodName := ⟨RX7, "digest", "()J"⟩
def RJ6 : String := "java/lang/Integer"
def TJ6 : u_T := fun k => match k with
  | _ => ("", "", "", false)
def tyJ6 : Nat → FieldType := fun k => match k with
  | _ => .int
abbrev wsJ60 : List Cond := u_ws RJ6 TJ6 0
theorem nmJ6 : ∀ a, a < 0 → ∀ b, b < 0 → a ≠ b → (TJ6 a).2.1 ≠ (TJ6 b).2.1 := by decide +kernel
theorem tyJ6_ok : ∀ k, k < 0 → parseFieldDescriptor (TJ6 k).2.2.1 = some (tyJ6 k) := by decide +kernel
abbrev cJ6_bitCount_0f7a4 : ByteArray := prog_10_method_49_code
def yJ6_bitCount_0f7a4 : MethodName := ⟨RJ6, "bitCount", "(I)I"⟩
def RJ9 : String := "java/lang/Math"
def TJ9 : u_T := fun k => match k with
  | _ => ("", "", "", false)
def tyJ9 : Nat → FieldType := fun k => match k with
  | _ => .int
abbrev wsJ90 : List Cond := u_ws RJ9 TJ9 0
theorem nmJ9 : ∀ a, a < 0 → ∀ b, b < 0 → a ≠ b → (TJ9 a).2.1 ≠ (TJ9 b).2.1 := by decide +kernel
theorem tyJ9_ok : ∀ k, k < 0 → parseFieldDescriptor (TJ9 k).2.2.1 = some (tyJ9 k) := by decide +kernel
abbrev cJ9_abs_067f4 : ByteArray := prog_11_method_61_code
def yJ9_abs_067f4 : MethodName := ⟨RJ9, "abs", "(J)J"⟩
def RL : String := "SquaredRowsLaw"
abbrev cL_law : ByteArray := code
def yL_law : MethodName := ⟨RL, "law", "([I)Z"⟩
end
section
/-! the road of the proof: states with labels for addresses, a function that runs simple instructions, contracts over whole small worlds -/
def tbl : List Cond := lw_tbl.filter goodWord
theorem tb_good {w : Cond} (hw : w ∈ tbl) : w ∈ tbl ∧ ((w.onTables && w.keeps) = true ∨ ∃ ty, w = .arrayClass ty) := ⟨hw, good_of_word (List.mem_filter.mp hw).2⟩
theorem tb_in {w : Cond} (i : Nat) (h : lw_tbl[i]? = some w) (hg : goodWord w = true) : w ∈ tbl := List.mem_filter.mpr ⟨List.mem_of_getElem? h, hg⟩
theorem tb_goodc {y : MethodName} {b : ByteArray} {n : Nat} {r : Option FieldType} (h : Cond.code y b n r ∈ tbl) : GoodIn tbl (Cond.code y b n r :: tbl) := fun w hw => by
  rcases List.mem_cons.mp hw with h1 | h1
  · rw [h1]; exact tb_good h
  · exact tb_good h1
abbrev classes : List vw_C := [(RX0, TX0, 2), (RX1, TX1, 2), (RX2, TX2, 9), (RX3, TX3, 4), (RX4, TX4, 3), (RX5, TX5, 2), (RX6, TX6, 12), (RX7, TX7, 25)]
def tysOf (cy : Nat → ClassId) : List (ClassId × FieldType) := [(cy 0, .int), (cy 1, .long), (cy 2, .byte)]
def ownN : Nat → String
  | 0 => RX0
  | 1 => RX1
  | 2 => RX2
  | 3 => RX3
  | 4 => RX4
  | 5 => RX5
  | 6 => RX6
  | 7 => RX7
  | 8 => RJ6
  | 9 => RJ9
  | _ => RL
def nestL : List (String × Nat × MethodName × String) := [(RX3, 45, yX6_isOutside, RX6), (RX0, 42, yX6_isOutside, RX6), (RX0, 61, yX6_signOf, RX6), (RX1, 26, yX6_bitOf, RX6), (RX0, 53, yX6_power, RX6), (RX2, 84, yX6_isOutside, RX6)]
def NW (U : State) : Prop := ∀ q ∈ nestL, va_Nw (.methodLinkNest q.1 q.2.1 q.2.2.1 q.2.2.2) U
theorem NW.warm {s U : State} (hW : s.WarmedH U.vm) (h : NW s) : NW U := fun q hq => va_Nw.warmM hW (h q hq)
theorem NW.same {s U : State} (e : s.vm = U.vm) (h : NW s) : NW U := fun q hq => va_Nw.same rfl e (h q hq)
def bI (b : Bool) : Int32 := match b with
  | true => 1
  | false => 0
theorem bI_nar (b : Bool) : narrow .boolean (.int (bI b)) = .int (bI b) := by cases b <;> decide
theorem bI_fit (b : Bool) : fits .boolean (.int (bI b)) = true := by cases b <;> decide
def reV (ad : Nat → Nat) : Value → Value
  | .ref a => .ref (ad a)
  | v => v
def reE (ad : Nat → Nat) : va_E → va_E
  | .inl a => .inl a
  | .inr o => .inr (o.1, o.2.map (reV ad))
theorem reV_cat (ad : Nat → Nat) (v : Value) : (reV ad v).category = v.category := by cases v <;> rfl
theorem reV_comp (f g : Nat → Nat) (v : Value) : reV f (reV g v) = reV (fun j => f (g j)) v := by cases v <;> rfl
theorem reE_comp (f g : Nat → Nat) (c : va_E) : reE f (reE g c) = reE (fun j => f (g j)) c := by
  cases c with
  | inl a => rfl
  | inr o =>
    obtain ⟨ci, fs⟩ := o
    show Sum.inr (ci, (fs.map (reV g)).map (reV f)) = Sum.inr (ci, fs.map (reV fun j => f (g j)))
    rw [List.map_map]
    congr 3
    funext v
    exact reV_comp f g v
def wdA (ad : Nat → Nat) : Nat → List va_E → va_W
  | _, [] => []
  | n, c :: r => (ad n, reE ad c) :: wdA ad (n + 1) r
def wd (ad : Nat → Nat) (w : List va_E) : va_W := wdA ad 0 w
theorem wdA_get (ad : Nat → Nat) : ∀ (w : List va_E) (n i : Nat), (wdA ad n w)[i]? = (w[i]?).map (fun c => (ad (n + i), reE ad c))
  | [], n, i => by simp [wdA]
  | c :: r, n, 0 => by simp [wdA]
  | c :: r, n, i + 1 => by
    rw [wdA, List.getElem?_cons_succ, List.getElem?_cons_succ, wdA_get ad r (n + 1) i]
    congr 1
    funext c
    rw [show n + 1 + i = n + (i + 1) by omega]
theorem wd_get (ad : Nat → Nat) (w : List va_E) (i : Nat) : (wd ad w)[i]? = (w[i]?).map (fun c => (ad i, reE ad c)) := by
  rw [wd, wdA_get, Nat.zero_add]
theorem wd_at {ad : Nat → Nat} {w : List va_E} {i : Nat} {c : va_E} (h : w[i]? = some c) : (wd ad w)[i]? = some (ad i, reE ad c) := by rw [wd_get, h]; rfl
theorem wd_of {ad : Nat → Nat} {w : List va_E} {i : Nat} {q : Nat × va_E} (h : (wd ad w)[i]? = some q) : ∃ c, w[i]? = some c ∧ q = (ad i, reE ad c) := by
  rw [wd_get] at h
  cases hw : w[i]? with
  | none => rw [hw] at h; cases h
  | some c => rw [hw] at h; exact ⟨c, rfl, (Option.some.inj h).symm⟩
theorem wd_set (ad : Nat → Nat) (w : List va_E) (i : Nat) (c : va_E) : wd ad (w.set i c) = (wd ad w).set i (ad i, reE ad c) := by
  apply List.ext_getElem?
  intro j
  rw [wd_get]
  by_cases h : i = j
  · subst h
    rw [List.getElem?_set, List.getElem?_set]
    have hl : (wd ad w).length = w.length := by
      have : ∀ (w : List va_E) (n : Nat), (wdA ad n w).length = w.length := by
        intro w
        induction w with
        | nil => intro n; rfl
        | cons a r ih => intro n; rw [wdA, List.length_cons, List.length_cons, ih]
      exact this w 0
    rw [hl]
    by_cases hi : i < w.length <;> simp [hi]
  · rw [List.getElem?_set_ne h, List.getElem?_set_ne h, wd_get]
def lvd (ad : Nat → Nat) (lv : List (Nat × Value)) : List (Nat × Value) := lv.map (fun q => (q.1, reV ad q.2))
def look (lv : List (Nat × Value)) (i : Nat) : Option Value := match lv with
  | [] => none
  | q :: r => match Nat.beq q.1 i with
    | true => some q.2
    | false => look r i
theorem look_mem {i : Nat} {v : Value} : ∀ {lv : List (Nat × Value)}, look lv i = some v → (i, v) ∈ lv
  | [], h => by cases h
  | q :: r, h => by
    unfold look at h
    split at h
    next he =>
      have e := Nat.eq_of_beq_eq_true he
      cases h
      subst e
      exact List.mem_cons_self
    next => exact List.mem_cons_of_mem _ (look_mem h)
theorem lv_look {ad : Nat → Nat} {ls : Array Slot} {nL i : Nat} {lv : List (Nat × Value)} {v : Value} (hl : lv_has ls nL (lvd ad lv)) (h : look lv i = some v) : ls[i]? = some (.val (reV ad v)) :=
  hl.2.2 (i, reV ad v) (List.mem_map.mpr ⟨(i, v), look_mem h, rfl⟩)
def st1 (i : Nat) (v : Value) (lv : List (Nat × Value)) : List (Nat × Value) := (i, v) :: lv.filter (fun q => !(q.1 == i) && !(q.1 + 1 == i && q.2.category == 2))
def st2 (i : Nat) (v : Value) (lv : List (Nat × Value)) : List (Nat × Value) := (i, v) :: lv.filter (fun q => !(q.1 == i) && (!(q.1 == i + 1) && !(q.1 + 1 == i && q.2.category == 2)))
theorem lvd_st1 (ad : Nat → Nat) (i : Nat) (v : Value) (lv : List (Nat × Value)) : (i, reV ad v) :: (lvd ad lv).filter (fun q => !(q.1 == i) && !(q.1 + 1 == i && q.2.category == 2)) = lvd ad (st1 i v lv) := by
  unfold lvd st1
  rw [List.map_cons, List.filter_map]
  congr 2
  apply List.filter_congr
  intro q _
  simp only [Function.comp, reV_cat]
theorem lvd_st2 (ad : Nat → Nat) (i : Nat) (v : Value) (lv : List (Nat × Value)) : (i, reV ad v) :: (lvd ad lv).filter (fun q => !(q.1 == i) && (!(q.1 == i + 1) && !(q.1 + 1 == i && q.2.category == 2))) = lvd ad (st2 i v lv) := by
  unfold lvd st2
  rw [List.map_cons, List.filter_map]
  congr 2
  apply List.filter_congr
  intro q _
  simp only [Function.comp, reV_cat]
theorem lvd_pick (ad : Nat → Nat) (lv : List (Nat × Value)) (ks : List Nat) : lv_pick (lvd ad lv) ks = lvd ad (lv_pick lv ks) := by
  unfold lv_pick lvd
  induction ks with
  | nil => rfl
  | cons a r ih =>
    rw [List.filterMap_cons, List.filterMap_cons, List.getElem?_map, ih]
    cases lv[a]? with
    | none => rfl
    | some q => rfl
theorem lvd_args (ad : Nat → Nat) : ∀ (vs : List Value) (i : Nat), lv_args i (vs.map (reV ad)) = lvd ad (lv_args i vs)
  | [], _ => rfl
  | v :: vs, i => by
    rw [List.map_cons, lv_args, lv_args, lvd_args ad vs, reV_cat]
    rfl
abbrev KX : Type := Program × Launch × Env × Room × State × MethodId × Array Value × List Frame × Method × Code × va_G × (Nat → Nat) × (Nat → Prop) × Nat × Nat × (State → Prop)
/-- from this pc, these numbers, this stack and this world the machine comes to its end -/
def G (k : KX) (nL pc : Nat) (lv : List (Nat × Value)) (st : List Value) (w : List va_E) : Prop := match k with
  | (p, l, e, R, s, m, args, below, meth, c, D, ad, A, cells, slots, Q) => ∀ (H : Heap) (locs : List Loc) (ls : Array Slot), va_P D classes (wd ad w) H → va_D A (wd ad w) → va_S A s.heap H locs → lv_has ls nL (lvd ad lv) → W p l e R s m args below meth c H locs cells slots Q (F0 m pc ls (st.map (reV ad)))
def OK (k : KX) (cc : ByteArray) (o nL : Nat) (cy : Nat → ClassId) (fr lo : Nat) : Prop := match k with
  | (p, l, e, R, s, m, args, below, meth, c, D, ad, A, cells, slots, Q) => p.tables.exec = Jvm.exec ∧ c.code = cc ∧ c.maxLocals = nL ∧ s.vm.findClass (ownN o) = some m.cls ∧ (∀ w ∈ tbl, w.before args s = true) ∧ va_K D classes (tysOf cy) s ∧ NW s ∧ (fr ≤ R.frames ∧ lo ≤ R.locals) ∧ cells ≤ R.cells ∧ slots ≤ R.slots
def QG (D : va_G) (cy : Nat → ClassId) (ad : Nat → Nat) (A : Nat → Prop) (R : Option Value) (w' : List va_E) : Array Value → State → Outcome → State → Prop := fun _ st oc t => (oc = .returned (R.map (reV ad)) ∧ va_P D classes (wd ad w') t.heap ∧ va_K D classes (tysOf cy) t ∧ va_D A (wd ad w')) ∧ va_F A st t
def RT (k : KX) (cy : Nat → ClassId) (ret : Option FieldType) (V : Option Value) (w' : List va_E) : Prop := match k with
  | (p, l, e, R, s, m, args, below, meth, c, D, ad, A, cells, slots, Q) => meth.sig.returnType = ret ∧ meth.locks = false ∧ Q = MQ below (QG D cy ad A V w') args s cells slots A
/-- a method's contract over a world with labels: for these arguments and this world it answers V and leaves w' -/
def MG (cy : Nat → ClassId) (y : MethodName) (bytes : ByteArray) (maxL : Nat) (ret : Option FieldType) (fr lo : Nat) (As : List Value) (w : List va_E) (V : Option Value) (w' : List va_E) : Prop :=
  ∀ (l : Launch) (D : va_G) (ad : Nat → Nat) (A : Nat → Prop), Met l y (Cond.code y bytes maxL ret :: tbl) { frames := fr, cells := 0, slots := 0, locals := lo } (va_Pc (As.map (reV ad)) (fun U => va_P D classes (wd ad w) U.heap ∧ va_K D classes (tysOf cy) U ∧ va_D A (wd ad w) ∧ NW U)) (QG D cy ad A V w') 0 0 A
theorem lg_sl_len (ad : Nat → Nat) (As : List Value) : (lg_sl (As.map (reV ad))).length = (lg_sl As).length := by
  induction As with
  | nil => rfl
  | cons a r ih =>
    simp only [lg_sl, List.map_cons, List.flatMap_cons, List.length_append, reV_cat] at ih ⊢
    rw [ih]
    split <;> rfl
theorem MG_of {cy : Nat → ClassId} {y : MethodName} {bytes : ByteArray} {maxL : Nat} {ret : Option FieldType} {fr lo o : Nat} {As : List Value} {w : List va_E} {V : Option Value} {w' : List va_E} (hy : plainName y.cls = true ∧ y.cls = ownN o) (hn : (lg_sl As).length ≤ maxL) {lv : List (Nat × Value)} (hlv : lv_args 0 As = lv)
    (body : ∀ k : KX, OK k bytes o maxL cy fr lo → RT k cy ret V w' → G k maxL 0 lv [] w) : MG cy y bytes maxL ret fr lo As w V w' := by
  intro l D ad A
  refine Met.ofW (cc := bytes) (maxL := maxL) (ret := ret) hy.1 rfl ?_
  intro p e s m args below meth c s₁ B hml hv
  obtain ⟨rfl, hP, hK, hD, hN⟩ := hv
  have hts := atoms_spec (ws := Cond.code y bytes maxL ret :: tbl) B.pre
  have hown : s.vm.findClass y.cls = some m.cls := findClass_of_methodNamed B.named
  rw [hy.2] at hown
  have hl := lv_entry (As.map (reV ad)) (n := maxL) (by rw [lg_sl_len]; exact hn)
  rw [lvd_args, hlv] at hl
  rw [lg_entry_eq]
  exact body (p, l, e, _, s, m, _, below, meth, c, D, ad, A, 0, 0, _) ⟨B.exec, B.bytes, hml, hown, fun w hw => hts w (List.mem_cons_of_mem _ hw), hK, hN, ⟨Nat.le_refl _, Nat.le_refl _⟩, Nat.le_refl _, Nat.le_refl _⟩ ⟨B.returns, B.notSynchronized, rfl⟩ s.heap [] _ hP hD va_S.rf hl
theorem G_iret {k : KX} {cc : ByteArray} {o nL fr lo : Nat} {cy : Nat → ClassId} {pc : Nat} {lv : List (Nat × Value)} {w : List va_E} {v : Int32} (C : OK k cc o nL cy fr lo) (hR : RT k cy (some .int) (some (.int v)) w) (hd : decode cc pc = .ok (.ireturn, 1)) : G k nL pc lv [.int v] w := by
  obtain ⟨p, l, e, R, s, m, args, below, meth, c, D, ad, A, cells, slots, Q⟩ := k
  obtain ⟨hx, hb, hml, hown, hts, hK, hN, hrm⟩ := C
  obtain ⟨hr, hlocks, hQ⟩ := hR
  intro H locs ls hP hD hS hl
  rw [hQ]
  exact W.iret hx hb hr (fun t ht hW => ⟨⟨rfl, by rw [ht]; exact hP, va_K.moved hW.alike hK, hD⟩, hS.F ht⟩) hS.2.2 hd hlocks
theorem G_zret {k : KX} {cc : ByteArray} {o nL fr lo : Nat} {cy : Nat → ClassId} {pc : Nat} {lv : List (Nat × Value)} {w : List va_E} {v : Bool} (C : OK k cc o nL cy fr lo) (hR : RT k cy (some .boolean) (some (.int (bI v))) w) (hd : decode cc pc = .ok (.ireturn, 1)) : G k nL pc lv [.int (bI v)] w := by
  obtain ⟨p, l, e, R, s, m, args, below, meth, c, D, ad, A, cells, slots, Q⟩ := k
  obtain ⟨hx, hb, hml, hown, hts, hK, hN, hrm⟩ := C
  obtain ⟨hr, hlocks, hQ⟩ := hR
  intro H locs ls hP hD hS hl
  rw [hQ]
  exact W.zret hx hb hr (bI_nar v) (fun t ht hW => ⟨⟨rfl, by rw [ht]; exact hP, va_K.moved hW.alike hK, hD⟩, hS.F ht⟩) hS.2.2 hd hlocks
theorem G_lret {k : KX} {cc : ByteArray} {o nL fr lo : Nat} {cy : Nat → ClassId} {pc : Nat} {lv : List (Nat × Value)} {w : List va_E} {v : Int64} (C : OK k cc o nL cy fr lo) (hR : RT k cy (some .long) (some (.long v)) w) (hd : decode cc pc = .ok (.lreturn, 1)) : G k nL pc lv [.long v] w := by
  obtain ⟨p, l, e, R, s, m, args, below, meth, c, D, ad, A, cells, slots, Q⟩ := k
  obtain ⟨hx, hb, hml, hown, hts, hK, hN, hrm⟩ := C
  obtain ⟨hr, hlocks, hQ⟩ := hR
  intro H locs ls hP hD hS hl
  rw [hQ]
  exact W.lret hx hb hr (fun t ht hW => ⟨⟨rfl, by rw [ht]; exact hP, va_K.moved hW.alike hK, hD⟩, hS.F ht⟩) hS.2.2 hd hlocks
theorem G_vret {k : KX} {cc : ByteArray} {o nL fr lo : Nat} {cy : Nat → ClassId} {pc : Nat} {lv : List (Nat × Value)} {w : List va_E} (C : OK k cc o nL cy fr lo) (hR : RT k cy none none w) (hd : decode cc pc = .ok (.return_, 1)) : G k nL pc lv [] w := by
  obtain ⟨p, l, e, R, s, m, args, below, meth, c, D, ad, A, cells, slots, Q⟩ := k
  obtain ⟨hx, hb, hml, hown, hts, hK, hN, hrm⟩ := C
  obtain ⟨hr, hlocks, hQ⟩ := hR
  intro H locs ls hP hD hS hl
  rw [hQ]
  exact W.vret hx hb hr (fun t ht hW => ⟨⟨rfl, by rw [ht]; exact hP, va_K.moved hW.alike hK, hD⟩, hS.F ht⟩) hS.2.2 hd hlocks
theorem G_lv {k : KX} {nL pc : Nat} {lv lv' : List (Nat × Value)} {st : List Value} {w : List va_E} (ks : List Nat) (hl : lv_pick lv ks = lv') (h : G k nL pc lv' st w) : G k nL pc lv st w := by
  obtain ⟨p, l, e, R, s, m, args, below, meth, c, D, ad, A, cells, slots, Q⟩ := k
  intro H locs ls hP hD hS hl2
  exact h H locs ls hP hD hS (lv_sub hl2 ks (by rw [lvd_pick, hl]))
end
section
def clN (ci : Nat) : vw_C := classes.getD ci (RX0, TX0, 2)
def flC (q : Nat × Nat × Nat × Nat) : Cond := .fieldLink (ownN q.1) q.2.1 ((clN q.2.2.1).2.1 q.2.2.2).1 ((clN q.2.2.1).2.1 q.2.2.2).2.1 ((clN q.2.2.1).2.1 q.2.2.2).2.2.1
def flL : List (Nat × Nat × Nat × Nat) := [(1, 9, 1, 0), (1, 15, 1, 1), (3, 9, 3, 0), (3, 15, 3, 1), (3, 22, 3, 2), (3, 26, 3, 3), (0, 11, 0, 0), (0, 21, 0, 1), (4, 11, 4, 0), (4, 19, 4, 1), (4, 15, 4, 2), (5, 9, 5, 0), (5, 15, 5, 1), (2, 9, 2, 0), (2, 15, 2, 1), (2, 18, 2, 2), (2, 21, 2, 3), (2, 25, 2, 4), (2, 28, 2, 5), (2, 51, 2, 6), (2, 55, 2, 7), (2, 74, 2, 8), (6, 12, 6, 0), (6, 16, 6, 1), (6, 22, 6, 2), (6, 26, 6, 3), (6, 32, 6, 4), (6, 39, 6, 5), (6, 46, 6, 6), (6, 53, 6, 7), (6, 57, 6, 8), (6, 222, 6, 9), (6, 226, 6, 10), (6, 229, 6, 11), (7, 7, 7, 0), (7, 13, 7, 1), (7, 16, 7, 2), (7, 56, 7, 3), (7, 19, 7, 4), (7, 22, 7, 5), (7, 220, 7, 6), (7, 25, 7, 7), (7, 28, 7, 8), (7, 31, 7, 9), (7, 242, 7, 10), (7, 34, 7, 11), (7, 38, 7, 12), (7, 41, 7, 13), (7, 153, 7, 14), (7, 44, 7, 15), (7, 47, 7, 16), (7, 204, 7, 17), (7, 50, 7, 18), (7, 229, 7, 19), (7, 226, 7, 20), (7, 232, 7, 21), (7, 252, 7, 22), (7, 235, 7, 23), (7, 239, 7, 24)]
def flP : List Nat := [85, 86, 94, 95, 96, 97, 113, 114, 128, 129, 130, 144, 145, 158, 159, 160, 161, 162, 163, 164, 165, 166, 186, 187, 188, 189, 190, 191, 192, 193, 194, 195, 196, 197, 668, 669, 670, 671, 672, 673, 674, 675, 676, 677, 678, 679, 680, 681, 682, 683, 684, 685, 686, 687, 688, 689, 690, 691, 692]
theorem fl_dec : (flL.zip flP).all (fun q => decide (lw_tbl[q.2]? = some (flC q.1)) && (goodWord (flC q.1) && (decide (q.1.2.2.1 < 8) && decide (q.1.2.2.2 < (clN q.1.2.2.1).2.2)))) = true := by decide +kernel
theorem fl_len : flL.length = flP.length := rfl
theorem fl_ok {q : Nat × Nat × Nat × Nat} (h : q ∈ flL) : flC q ∈ tbl ∧ q.2.2.1 < 8 ∧ q.2.2.2 < (clN q.2.2.1).2.2 := by
  obtain ⟨i, hi⟩ := List.getElem?_of_mem h
  have hl : i < flL.length := (List.getElem?_eq_some_iff.mp hi).1
  have h2 : flP[i]? = some flP[i] := List.getElem?_eq_getElem (by rw [← fl_len]; exact hl)
  have h3 : (q, flP[i]) ∈ flL.zip flP := List.mem_of_getElem? (i := i) (by rw [List.getElem?_zip_eq_some]; exact ⟨hi, h2⟩)
  have h4 := List.all_eq_true.mp fl_dec _ h3
  simp only [Bool.and_eq_true, decide_eq_true_eq] at h4
  exact ⟨tb_in _ h4.1 h4.2.1, h4.2.2.1, h4.2.2.2⟩
theorem cl_at : ∀ ci, ci < 8 → classes[ci]? = some (clN ci) := by
  intro ci h
  match ci, h with
  | 0, _ => rfl
  | 1, _ => rfl
  | 2, _ => rfl
  | 3, _ => rfl
  | 4, _ => rfl
  | 5, _ => rfl
  | 6, _ => rfl
  | 7, _ => rfl
  | n + 8, h => omega
theorem li0 : u_ws RX0 TX0 2 = [115, 117].filterMap (fun i => lw_tbl[i]?) ∧ (u_ws RX0 TX0 2).all goodWord = true := by decide +kernel
theorem in0 : ∀ w ∈ u_ws RX0 TX0 2, w ∈ tbl := fun w hw => by
  have hg := List.all_eq_true.mp li0.2 w hw
  rw [li0.1] at hw
  obtain ⟨i, -, hi⟩ := List.mem_filterMap.mp hw
  exact tb_in i hi hg
theorem li1 : u_ws RX1 TX1 2 = [87, 89].filterMap (fun i => lw_tbl[i]?) ∧ (u_ws RX1 TX1 2).all goodWord = true := by decide +kernel
theorem in1 : ∀ w ∈ u_ws RX1 TX1 2, w ∈ tbl := fun w hw => by
  have hg := List.all_eq_true.mp li1.2 w hw
  rw [li1.1] at hw
  obtain ⟨i, -, hi⟩ := List.mem_filterMap.mp hw
  exact tb_in i hi hg
theorem li2 : u_ws RX2 TX2 9 = [167, 169, 171, 173, 175, 177, 179, 181, 183].filterMap (fun i => lw_tbl[i]?) ∧ (u_ws RX2 TX2 9).all goodWord = true := by decide +kernel
theorem in2 : ∀ w ∈ u_ws RX2 TX2 9, w ∈ tbl := fun w hw => by
  have hg := List.all_eq_true.mp li2.2 w hw
  rw [li2.1] at hw
  obtain ⟨i, -, hi⟩ := List.mem_filterMap.mp hw
  exact tb_in i hi hg
theorem li3 : u_ws RX3 TX3 4 = [98, 100, 102, 104].filterMap (fun i => lw_tbl[i]?) ∧ (u_ws RX3 TX3 4).all goodWord = true := by decide +kernel
theorem in3 : ∀ w ∈ u_ws RX3 TX3 4, w ∈ tbl := fun w hw => by
  have hg := List.all_eq_true.mp li3.2 w hw
  rw [li3.1] at hw
  obtain ⟨i, -, hi⟩ := List.mem_filterMap.mp hw
  exact tb_in i hi hg
theorem li4 : u_ws RX4 TX4 3 = [131, 133, 135].filterMap (fun i => lw_tbl[i]?) ∧ (u_ws RX4 TX4 3).all goodWord = true := by decide +kernel
theorem in4 : ∀ w ∈ u_ws RX4 TX4 3, w ∈ tbl := fun w hw => by
  have hg := List.all_eq_true.mp li4.2 w hw
  rw [li4.1] at hw
  obtain ⟨i, -, hi⟩ := List.mem_filterMap.mp hw
  exact tb_in i hi hg
theorem li5 : u_ws RX5 TX5 2 = [146, 148].filterMap (fun i => lw_tbl[i]?) ∧ (u_ws RX5 TX5 2).all goodWord = true := by decide +kernel
theorem in5 : ∀ w ∈ u_ws RX5 TX5 2, w ∈ tbl := fun w hw => by
  have hg := List.all_eq_true.mp li5.2 w hw
  rw [li5.1] at hw
  obtain ⟨i, -, hi⟩ := List.mem_filterMap.mp hw
  exact tb_in i hi hg
theorem li6 : u_ws RX6 TX6 12 = [198, 200, 202, 204, 206, 208, 210, 212, 214, 216, 218, 220].filterMap (fun i => lw_tbl[i]?) ∧ (u_ws RX6 TX6 12).all goodWord = true := by decide +kernel
theorem in6 : ∀ w ∈ u_ws RX6 TX6 12, w ∈ tbl := fun w hw => by
  have hg := List.all_eq_true.mp li6.2 w hw
  rw [li6.1] at hw
  obtain ⟨i, -, hi⟩ := List.mem_filterMap.mp hw
  exact tb_in i hi hg
theorem li7 : u_ws RX7 TX7 25 = [693, 695, 697, 699, 701, 703, 705, 707, 709, 711, 713, 715, 717, 719, 721, 723, 725, 727, 729, 731, 733, 735, 737, 739, 741].filterMap (fun i => lw_tbl[i]?) ∧ (u_ws RX7 TX7 25).all goodWord = true := by decide +kernel
theorem in7 : ∀ w ∈ u_ws RX7 TX7 25, w ∈ tbl := fun w hw => by
  have hg := List.all_eq_true.mp li7.2 w hw
  rw [li7.1] at hw
  obtain ⟨i, -, hi⟩ := List.mem_filterMap.mp hw
  exact tb_in i hi hg
theorem cl_in : ∀ ci, ci < 8 → ∀ w ∈ u_ws (clN ci).1 (clN ci).2.1 (clN ci).2.2, w ∈ tbl := by
  intro ci h
  match ci, h with
  | 0, _ => exact in0
  | 1, _ => exact in1
  | 2, _ => exact in2
  | 3, _ => exact in3
  | 4, _ => exact in4
  | 5, _ => exact in5
  | 6, _ => exact in6
  | 7, _ => exact in7
  | n + 8, h => omega
def tyN (ci : Nat) : Nat → FieldType := match ci with
  | 0 => tyX0
  | 1 => tyX1
  | 2 => tyX2
  | 3 => tyX3
  | 4 => tyX4
  | 5 => tyX5
  | 6 => tyX6
  | _ => tyX7
theorem cl_ty : ∀ ci, ci < 8 → ∀ k, k < (clN ci).2.2 → parseFieldDescriptor ((clN ci).2.1 k).2.2.1 = some (tyN ci k) := by
  intro ci h
  match ci, h with
  | 0, _ => exact tyX0_ok
  | 1, _ => exact tyX1_ok
  | 2, _ => exact tyX2_ok
  | 3, _ => exact tyX3_ok
  | 4, _ => exact tyX4_ok
  | 5, _ => exact tyX5_ok
  | 6, _ => exact tyX6_ok
  | 7, _ => exact tyX7_ok
  | n + 8, h => omega
theorem cl_nm : ∀ ci, ci < 8 → ∀ a, a < (clN ci).2.2 → ∀ b, b < (clN ci).2.2 → a ≠ b → ((clN ci).2.1 a).2.1 ≠ ((clN ci).2.1 b).2.1 := by
  intro ci h
  match ci, h with
  | 0, _ => exact nmX0
  | 1, _ => exact nmX1
  | 2, _ => exact nmX2
  | 3, _ => exact nmX3
  | 4, _ => exact nmX4
  | 5, _ => exact nmX5
  | 6, _ => exact nmX6
  | 7, _ => exact nmX7
  | n + 8, h => omega
abbrev AI : Type := Instr × Nat × Nat × Nat × Value
abbrev MS : Type := List (Nat × Value) × List Value × List va_E
def ldI (lv : List (Nat × Value)) (n : Nat) (st : List Value) (w : List va_E) : Option MS := match look lv n with
  | some (.int x) => some (lv, .int x :: st, w)
  | _ => none
def ldJ (lv : List (Nat × Value)) (n : Nat) (st : List Value) (w : List va_E) : Option MS := match look lv n with
  | some (.long x) => some (lv, .long x :: st, w)
  | _ => none
def ldA (lv : List (Nat × Value)) (n : Nat) (st : List Value) (w : List va_E) : Option MS := match look lv n with
  | some (.ref x) => some (lv, .ref x :: st, w)
  | _ => none
def stI (nL : Nat) (lv : List (Nat × Value)) (n : Nat) (st : List Value) (w : List va_E) : Option MS := match Nat.blt n nL, st with
  | true, .int x :: r => some (st1 n (.int x) lv, r, w)
  | _, _ => none
def stJ (nL : Nat) (lv : List (Nat × Value)) (n : Nat) (st : List Value) (w : List va_E) : Option MS := match Nat.blt (n + 1) nL, st with
  | true, .long x :: r => some (st2 n (.long x) lv, r, w)
  | _, _ => none
def getF (ci kf : Nat) (lv : List (Nat × Value)) (st : List Value) (w : List va_E) : Option MS := match st with
  | .ref a :: r => match w[a]? with
    | some (.inr (c, fs)) => match Nat.beq c ci, fs[kf]? with
      | true, some v => some (lv, v :: r, w)
      | _, _ => none
    | _ => none
  | _ => none
def putF (ci kf : Nat) (lv : List (Nat × Value)) (st : List Value) (w : List va_E) : Option MS := match st with
  | .int x :: .ref a :: r => match w[a]? with
    | some (.inr (c, fs)) => match Nat.beq c ci, Nat.blt kf fs.length, tyN ci kf, ((clN ci).2.1 kf).2.2.2 with
      | true, true, .int, false => some (lv, r, w.set a (.inr (c, fs.set kf (.int x))))
      | _, _, _, _ => none
    | _ => none
  | .long x :: .ref a :: r => match w[a]? with
    | some (.inr (c, fs)) => match Nat.beq c ci, Nat.blt kf fs.length, tyN ci kf, ((clN ci).2.1 kf).2.2.2 with
      | true, true, .long, false => some (lv, r, w.set a (.inr (c, fs.set kf (.long x))))
      | _, _, _, _ => none
    | _ => none
  | _ => none
def nx (nL : Nat) (i : Instr) (ci kf : Nat) (v : Value) (lv : List (Nat × Value)) (st : List Value) (w : List va_E) : Option MS := match i with
  | .iconst _ => some (lv, v :: st, w)
  | .bipush _ => some (lv, v :: st, w)
  | .sipush _ => some (lv, v :: st, w)
  | .lconst _ => some (lv, v :: st, w)
  | .iload n => ldI lv n st w
  | .iload_n n => ldI lv n.val st w
  | .lload n => ldJ lv n st w
  | .lload_n n => ldJ lv n.val st w
  | .aload n => ldA lv n st w
  | .aload_n n => ldA lv n.val st w
  | .istore n => stI nL lv n st w
  | .istore_n n => stI nL lv n.val st w
  | .lstore n => stJ nL lv n st w
  | .lstore_n n => stJ nL lv n.val st w
  | .iinc n _ => match Nat.blt n nL, look lv n, v with
    | true, some (.int x), .int d => some (st1 n (.int (x + d)) lv, st, w)
    | _, _, _ => none
  | .iadd => match st with
    | .int y :: .int x :: r => some (lv, .int (x + y) :: r, w)
    | _ => none
  | .isub => match st with
    | .int y :: .int x :: r => some (lv, .int (x - y) :: r, w)
    | _ => none
  | .imul => match st with
    | .int y :: .int x :: r => some (lv, .int (x * y) :: r, w)
    | _ => none
  | .iand => match st with
    | .int y :: .int x :: r => some (lv, .int (x &&& y) :: r, w)
    | _ => none
  | .ixor => match st with
    | .int y :: .int x :: r => some (lv, .int (x ^^^ y) :: r, w)
    | _ => none
  | .ineg => match st with
    | .int x :: r => some (lv, .int (-x) :: r, w)
    | _ => none
  | .ishl => match st with
    | .int y :: .int x :: r => some (lv, .int (x <<< (y &&& 31)) :: r, w)
    | _ => none
  | .ishr => match st with
    | .int y :: .int x :: r => some (lv, .int (x >>> (y &&& 31)) :: r, w)
    | _ => none
  | .iushr => match st with
    | .int y :: .int x :: r => some (lv, .int (x.toUInt32 >>> (y.toUInt32 &&& Int32.toUInt32 31)).toInt32 :: r, w)
    | _ => none
  | .ladd => match st with
    | .long y :: .long x :: r => some (lv, .long (x + y) :: r, w)
    | _ => none
  | .lsub => match st with
    | .long y :: .long x :: r => some (lv, .long (x - y) :: r, w)
    | _ => none
  | .lmul => match st with
    | .long y :: .long x :: r => some (lv, .long (x * y) :: r, w)
    | _ => none
  | .lneg => match st with
    | .long x :: r => some (lv, .long (-x) :: r, w)
    | _ => none
  | .i2l => match st with
    | .int x :: r => some (lv, .long x.toInt64 :: r, w)
    | _ => none
  | .l2i => match st with
    | .long x :: r => some (lv, .int x.toInt32 :: r, w)
    | _ => none
  | .i2b => match st with
    | .int x :: r => some (lv, .int x.toInt8.toInt32 :: r, w)
    | _ => none
  | .dup => match st with
    | .int x :: r => some (lv, .int x :: .int x :: r, w)
    | .ref x :: r => some (lv, .ref x :: .ref x :: r, w)
    | _ => none
  | .dup2 => match st with
    | .int x :: .ref y :: r => some (lv, .int x :: .ref y :: .int x :: .ref y :: r, w)
    | .int x :: .int y :: r => some (lv, .int x :: .int y :: .int x :: .int y :: r, w)
    | .long x :: r => some (lv, .long x :: .long x :: r, w)
    | _ => none
  | .getfield _ => getF ci kf lv st w
  | .putfield _ => putF ci kf lv st w
  | _ => none
def lenI (i : Instr) : Nat := match i with
  | .bipush _ => 2
  | .sipush _ => 3
  | .iload _ => 2
  | .lload _ => 2
  | .aload _ => 2
  | .istore _ => 2
  | .lstore _ => 2
  | .iinc _ _ => 3
  | .getfield _ => 3
  | .putfield _ => 3
  | _ => 1
def okI (o : Nat) (i : Instr) (ci kf : Nat) (v : Value) : Bool := match i with
  | .iconst n => decide (v = .int (Int32.ofInt n))
  | .bipush n => decide (v = .int (Int8.ofInt n).toInt32)
  | .sipush n => decide (v = .int (Int16.ofInt n).toInt32)
  | .lconst n => decide (v = .long (Int64.ofNat n.val))
  | .iinc _ n => decide (v = .int (Int32.ofInt n))
  | .getfield idx => decide ((o, idx, ci, kf) ∈ flL)
  | .putfield idx => decide ((o, idx, ci, kf) ∈ flL)
  | _ => true
theorem nx_ok {k : KX} {cc : ByteArray} {o nL fr lo : Nat} {cy : Nat → ClassId} {pc : Nat} {lv lv' : List (Nat × Value)} {st st' : List Value} {w w' : List va_E} (C : OK k cc o nL cy fr lo) {i : Instr} {ci kf : Nat} {v : Value} (hd : decode cc pc = .ok (i, lenI i)) (ho : okI o i ci kf v = true) (hn : nx nL i ci kf v lv st w = some (lv', st', w')) (h : G k nL (pc + lenI i) lv' st' w') : G k nL pc lv st w := by
  obtain ⟨p, l, e, R, s, m, args, below, meth, c, D, ad, A, cells, slots, Q⟩ := k
  obtain ⟨hx, hb, hml, hown, hts, hK, hN, hrm⟩ := C
  intro H locs ls hP hD hS hl
  cases i
  case iconst a =>
    have e := of_decide_eq_true ho
    cases hn
    subst e
    exact lv_iconst hx hb hd rfl (h H locs ls hP hD hS hl)
  case bipush a =>
    have e := of_decide_eq_true ho
    cases hn
    subst e
    exact lv_bipush hx hb hd rfl (h H locs ls hP hD hS hl)
  case sipush a =>
    have e := of_decide_eq_true ho
    cases hn
    subst e
    exact lv_sipush hx hb hd rfl (h H locs ls hP hD hS hl)
  case lconst a =>
    have e := of_decide_eq_true ho
    cases hn
    subst e
    exact lv_lconst hx hb hd rfl (h H locs ls hP hD hS hl)
  case iload a =>
    simp only [nx, ldI] at hn
    split at hn
    · next x hlk => cases hn; exact lv_iload hx hb hd (lv_look hl hlk) (h H locs ls hP hD hS hl)
    · cases hn
  case iload_n a =>
    simp only [nx, ldI] at hn
    split at hn
    · next x hlk => cases hn; exact lv_iload_n hx hb hd rfl (lv_look hl hlk) (h H locs ls hP hD hS hl)
    · cases hn
  case lload a =>
    simp only [nx, ldJ] at hn
    split at hn
    · next x hlk => cases hn; exact lv_lload hx hb hd (lv_look hl hlk) (h H locs ls hP hD hS hl)
    · cases hn
  case lload_n a =>
    simp only [nx, ldJ] at hn
    split at hn
    · next x hlk => cases hn; exact lv_lload_n hx hb hd rfl (lv_look hl hlk) (h H locs ls hP hD hS hl)
    · cases hn
  case aload a =>
    simp only [nx, ldA] at hn
    split at hn
    · next x hlk => cases hn; exact lv_aload hx hb hd (lv_look hl hlk) (h H locs ls hP hD hS hl)
    · cases hn
  case aload_n a =>
    simp only [nx, ldA] at hn
    split at hn
    · next x hlk => cases hn; exact lv_aload_n hx hb hd rfl (lv_look hl hlk) (h H locs ls hP hD hS hl)
    · cases hn
  case istore a =>
    simp only [nx, stI] at hn
    split at hn
    · next x r hlt => cases hn; exact lv_istore hx hb hd hl (Nat.le_of_ble_eq_true hlt) (lvd_st1 ad a (.int x) lv) (fun ls hl => h H locs ls hP hD hS hl)
    · cases hn
  case istore_n a =>
    simp only [nx, stI] at hn
    split at hn
    · next x r hlt => cases hn; exact lv_istore_n hx hb hd rfl hl (Nat.le_of_ble_eq_true hlt) (lvd_st1 ad a.val (.int x) lv) (fun ls hl => h H locs ls hP hD hS hl)
    · cases hn
  case lstore a =>
    simp only [nx, stJ] at hn
    split at hn
    · next x r hlt => cases hn; exact lv_lstore hx hb hd hl (Nat.le_of_ble_eq_true hlt) (lvd_st2 ad a (.long x) lv) (fun ls hl => h H locs ls hP hD hS hl)
    · cases hn
  case lstore_n a =>
    simp only [nx, stJ] at hn
    split at hn
    · next x r hlt => cases hn; exact lv_lstore_n hx hb hd rfl hl (Nat.le_of_ble_eq_true hlt) (lvd_st2 ad a.val (.long x) lv) (fun ls hl => h H locs ls hP hD hS hl)
    · cases hn
  case iinc a n =>
    have e := of_decide_eq_true ho
    simp only [nx] at hn
    split at hn
    · next x d hlt hlk =>
      cases hn
      cases e
      obtain ⟨q, hq⟩ := List.getElem?_of_mem (List.mem_map.mpr ⟨(a, .int x), look_mem hlk, rfl⟩ : (a, Value.int x) ∈ lvd ad lv)
      exact lv_iinc hx hb hd hl hq rfl (Nat.le_of_ble_eq_true hlt) (lvd_st1 ad a (.int (x + Int32.ofInt n)) lv) (fun ls hl => h H locs ls hP hD hS hl)
    · cases hn
  case iadd =>
    simp only [nx] at hn
    split at hn
    · cases hn; exact lv_iadd hx hb hd (h H locs ls hP hD hS hl)
    · cases hn
  case isub =>
    simp only [nx] at hn
    split at hn
    · cases hn; exact lv_isub hx hb hd (h H locs ls hP hD hS hl)
    · cases hn
  case imul =>
    simp only [nx] at hn
    split at hn
    · cases hn; exact lv_imul hx hb hd (h H locs ls hP hD hS hl)
    · cases hn
  case iand =>
    simp only [nx] at hn
    split at hn
    · cases hn; exact lv_iand hx hb hd (h H locs ls hP hD hS hl)
    · cases hn
  case ixor =>
    simp only [nx] at hn
    split at hn
    · cases hn; exact lv_ixor hx hb hd (h H locs ls hP hD hS hl)
    · cases hn
  case ineg =>
    simp only [nx] at hn
    split at hn
    · cases hn; exact lv_ineg hx hb hd (h H locs ls hP hD hS hl)
    · cases hn
  case ishl =>
    simp only [nx] at hn
    split at hn
    · cases hn; exact lv_ishl hx hb hd (h H locs ls hP hD hS hl)
    · cases hn
  case ishr =>
    simp only [nx] at hn
    split at hn
    · cases hn; exact lv_ishr hx hb hd (h H locs ls hP hD hS hl)
    · cases hn
  case iushr =>
    simp only [nx] at hn
    split at hn
    · cases hn; exact lv_iushr hx hb hd rfl (h H locs ls hP hD hS hl)
    · cases hn
  case ladd =>
    simp only [nx] at hn
    split at hn
    · cases hn; exact lv_ladd hx hb hd (h H locs ls hP hD hS hl)
    · cases hn
  case lsub =>
    simp only [nx] at hn
    split at hn
    · cases hn; exact lv_lsub hx hb hd (h H locs ls hP hD hS hl)
    · cases hn
  case lmul =>
    simp only [nx] at hn
    split at hn
    · cases hn; exact lv_lmul hx hb hd (h H locs ls hP hD hS hl)
    · cases hn
  case lneg =>
    simp only [nx] at hn
    split at hn
    · cases hn; exact lv_lneg hx hb hd (h H locs ls hP hD hS hl)
    · cases hn
  case i2l =>
    simp only [nx] at hn
    split at hn
    · cases hn; exact lv_i2l hx hb hd rfl (h H locs ls hP hD hS hl)
    · cases hn
  case l2i =>
    simp only [nx] at hn
    split at hn
    · cases hn; exact lv_l2i hx hb hd rfl (h H locs ls hP hD hS hl)
    · cases hn
  case i2b =>
    simp only [nx] at hn
    split at hn
    · cases hn; exact lv_i2b hx hb hd rfl (h H locs ls hP hD hS hl)
    · cases hn
  case dup =>
    simp only [nx] at hn
    split at hn
    · cases hn; exact lv_dup hx hb hd rfl (h H locs ls hP hD hS hl)
    · cases hn; exact lv_dup hx hb hd rfl (h H locs ls hP hD hS hl)
    · cases hn
  case dup2 =>
    simp only [nx] at hn
    split at hn
    · cases hn; exact lv_dup2_11 hx hb hd rfl rfl (h H locs ls hP hD hS hl)
    · cases hn; exact lv_dup2_11 hx hb hd rfl rfl (h H locs ls hP hD hS hl)
    · cases hn; exact lv_dup2_2 hx hb hd rfl (h H locs ls hP hD hS hl)
    · cases hn
  case getfield idx =>
    have hf := fl_ok (of_decide_eq_true ho)
    simp only [nx, getF] at hn
    split at hn
    · next a r =>
      split at hn
      · next c' fs hw =>
        split at hn
        · next v' hc hv =>
          cases hn
          have e := Nat.eq_of_beq_eq_true hc
          subst e
          exact va_get (C := (clN c').1) (T := (clN c').2.1) (N := (clN c').2.2) hx hb hts (cl_in c' hf.2.1) hown hK hP a (wd_at hw) (cl_at c' hf.2.1) kf hf.2.2 (hts _ hf.1) (fun _ q => q) (v := reV ad v') (by rw [List.getElem?_map, hv]; rfl) hd (h H locs ls hP hD hS hl)
        · cases hn
      · cases hn
    · cases hn
  case putfield idx =>
    have hf := fl_ok (of_decide_eq_true ho)
    simp only [nx, putF] at hn
    split at hn
    · next x a r =>
      split at hn
      · next c' fs hw =>
        split at hn
        · next hc hlt hty hfin =>
          cases hn
          have e := Nat.eq_of_beq_eq_true hc
          subst e
          have hlt' : kf < (fs.map (reV ad)).length := by rw [List.length_map]; exact Nat.le_of_ble_eq_true hlt
          refine va_put (C := (clN c').1) (T := (clN c').2.1) (N := (clN c').2.2) (ty := .int) (v := .int x) hx hb hts (cl_in c' hf.2.1) (tyN c') (cl_ty c' hf.2.1) (cl_nm c' hf.2.1) hown hK hP hD hS a (wd_at hw) (cl_at c' hf.2.1) kf hf.2.2 (hts _ hf.1) (fun _ q => q) hfin (by rw [cl_ty c' hf.2.1 kf hf.2.2, hty]) rfl rfl hlt' hd (fun H1 locs1 hP1 hD1 hS1 => ?_)
          have e2 : wd ad (w.set a (.inr (c', fs.set kf (.int x)))) = (wd ad w).set a (ad a, .inr (c', (fs.map (reV ad)).set kf (.int x))) := by
            rw [wd_set]
            show _ = (wd ad w).set a (ad a, .inr (c', (fs.map (reV ad)).set kf (reV ad (.int x))))
            rw [← List.map_set]
            rfl
          exact h H1 locs1 ls (by rw [e2]; exact hP1) (by rw [e2]; exact hD1) hS1 hl
        · cases hn
      · cases hn
    · next x a r =>
      split at hn
      · next c' fs hw =>
        split at hn
        · next hc hlt hty hfin =>
          cases hn
          have e := Nat.eq_of_beq_eq_true hc
          subst e
          have hlt' : kf < (fs.map (reV ad)).length := by rw [List.length_map]; exact Nat.le_of_ble_eq_true hlt
          refine va_put (C := (clN c').1) (T := (clN c').2.1) (N := (clN c').2.2) (ty := .long) (v := .long x) hx hb hts (cl_in c' hf.2.1) (tyN c') (cl_ty c' hf.2.1) (cl_nm c' hf.2.1) hown hK hP hD hS a (wd_at hw) (cl_at c' hf.2.1) kf hf.2.2 (hts _ hf.1) (fun _ q => q) hfin (by rw [cl_ty c' hf.2.1 kf hf.2.2, hty]) rfl rfl hlt' hd (fun H1 locs1 hP1 hD1 hS1 => ?_)
          have e2 : wd ad (w.set a (.inr (c', fs.set kf (.long x)))) = (wd ad w).set a (ad a, .inr (c', (fs.map (reV ad)).set kf (.long x))) := by
            rw [wd_set]
            show _ = (wd ad w).set a (ad a, .inr (c', (fs.map (reV ad)).set kf (reV ad (.long x))))
            rw [← List.map_set]
            rfl
          exact h H1 locs1 ls (by rw [e2]; exact hP1) (by rw [e2]; exact hD1) hS1 hl
        · cases hn
      · cases hn
    · cases hn
  all_goals cases hn
def runs (nL : Nat) : List AI → MS → Option MS
  | [], s => some s
  | (i, _, ci, kf, v) :: r, (lv, st, w) => match nx nL i ci kf v lv st w with
    | some s => runs nL r s
    | none => none
def chk (o : Nat) (cc : ByteArray) : Nat → List AI → Bool
  | _, [] => true
  | pc, (i, n, ci, kf, v) :: r => decide (decode cc pc = .ok (i, n)) && (decide (n = lenI i) && (okI o i ci kf v && chk o cc (pc + n) r))
def pcs : Nat → List AI → Nat
  | pc, [] => pc
  | pc, (_, n, _, _, _) :: r => pcs (pc + n) r
theorem G_run {k : KX} {cc : ByteArray} {o nL fr lo : Nat} {cy : Nat → ClassId} (C : OK k cc o nL cy fr lo) : ∀ (code : List AI) {pc pc' : Nat} {lv lv' : List (Nat × Value)} {st st' : List Value} {w w' : List va_E}, chk o cc pc code = true → runs nL code (lv, st, w) = some (lv', st', w') → pcs pc code = pc' → G k nL pc' lv' st' w' → G k nL pc lv st w
  | [], pc, pc', lv, lv', st, st', w, w', _, hr, hp, h => by
    cases hr
    cases hp
    exact h
  | (i, n, ci, kf, v) :: r, pc, pc', lv, lv', st, st', w, w', hc, hr, hp, h => by
    simp only [chk, Bool.and_eq_true, decide_eq_true_eq] at hc
    obtain ⟨h1, h2, h3, h4⟩ := hc
    rw [runs] at hr
    split at hr
    · next s hs =>
      obtain ⟨lv1, st1, w1⟩ := s
      subst h2
      exact nx_ok C h1 h3 hs (G_run C r h4 hr hp h)
    · cases hr
end
section
theorem G_goto {k : KX} {cc : ByteArray} {o nL fr lo : Nat} {cy : Nat → ClassId} {pc : Nat} {lv : List (Nat × Value)} {st : List Value} {w : List va_E} (C : OK k cc o nL cy fr lo) {off : Int} {tgt : Nat} (hd : decode cc pc = .ok (.goto off, 3)) (ht : (pc : Int) + off = (tgt : Int)) (h : G k nL tgt lv st w) : G k nL pc lv st w := by
  obtain ⟨p, l, e, R, s, m, args, below, meth, c, D, ad, A, cells, slots, Q⟩ := k
  obtain ⟨hx, hb, hml, hown, hts, hK, hN, hrm⟩ := C
  intro H locs ls hP hD hS hl
  exact lv_goto hx hb hd ht (h H locs ls hP hD hS hl)
theorem G_if_eq {k : KX} {cc : ByteArray} {o nL fr lo : Nat} {cy : Nat → ClassId} {pc : Nat} {lv : List (Nat × Value)} {st : List Value} {w : List va_E} (C : OK k cc o nL cy fr lo) {x : Int32} {off : Int} {tgt : Nat} (hd : decode cc pc = .ok (.ifCond .eq off, 3)) (ht : (pc : Int) + off = (tgt : Int)) (kt : x = 0 → G k nL tgt lv st w) (kf : ¬ x = 0 → G k nL (pc + 3) lv st w) : G k nL pc lv (.int x :: st) w := by
  obtain ⟨p, l, e, R, s, m, args, below, meth, c, D, ad, A, cells, slots, Q⟩ := k
  obtain ⟨hx, hb, hml, hown, hts, hK, hN, hrm⟩ := C
  intro H locs ls hP hD hS hl
  exact lv_if_eq hx hb hd ht (fun q => kt q H locs ls hP hD hS hl) (fun q => kf q H locs ls hP hD hS hl)
theorem G_icmp_eq {k : KX} {cc : ByteArray} {o nL fr lo : Nat} {cy : Nat → ClassId} {pc : Nat} {lv : List (Nat × Value)} {st : List Value} {w : List va_E} (C : OK k cc o nL cy fr lo) {x y : Int32} {off : Int} {tgt : Nat} (hd : decode cc pc = .ok (.if_icmp .eq off, 3)) (ht : (pc : Int) + off = (tgt : Int)) (kt : x = y → G k nL tgt lv st w) (kf : ¬ x = y → G k nL (pc + 3) lv st w) : G k nL pc lv (.int y :: .int x :: st) w := by
  obtain ⟨p, l, e, R, s, m, args, below, meth, c, D, ad, A, cells, slots, Q⟩ := k
  obtain ⟨hx, hb, hml, hown, hts, hK, hN, hrm⟩ := C
  intro H locs ls hP hD hS hl
  exact lv_icmp_eq hx hb hd ht (fun q => kt q H locs ls hP hD hS hl) (fun q => kf q H locs ls hP hD hS hl)
theorem G_lcmp_eq {k : KX} {cc : ByteArray} {o nL fr lo : Nat} {cy : Nat → ClassId} {pc : Nat} {lv : List (Nat × Value)} {st : List Value} {w : List va_E} (C : OK k cc o nL cy fr lo) {x y : Int64} {off : Int} {tgt : Nat} (h0 : decode cc pc = .ok (.lcmp, 1)) (hd : decode cc (pc + 1) = .ok (.ifCond .eq off, 3)) (ht : ((pc + 1 : Nat) : Int) + off = (tgt : Int)) (kt : x = y → G k nL tgt lv st w) (kf : ¬ x = y → G k nL (pc + 1 + 3) lv st w) : G k nL pc lv (.long y :: .long x :: st) w := by
  obtain ⟨p, l, e, R, s, m, args, below, meth, c, D, ad, A, cells, slots, Q⟩ := k
  obtain ⟨hx, hb, hml, hown, hts, hK, hN, hrm⟩ := C
  intro H locs ls hP hD hS hl
  exact W.lcmp hx hb h0 (lv_if_eq hx hb hd ht (fun q => kt ((lg_cmp_eq x y).mp q) H locs ls hP hD hS hl) (fun q => kf (fun z => q ((lg_cmp_eq x y).mpr z)) H locs ls hP hD hS hl))
theorem G_if_ne {k : KX} {cc : ByteArray} {o nL fr lo : Nat} {cy : Nat → ClassId} {pc : Nat} {lv : List (Nat × Value)} {st : List Value} {w : List va_E} (C : OK k cc o nL cy fr lo) {x : Int32} {off : Int} {tgt : Nat} (hd : decode cc pc = .ok (.ifCond .ne off, 3)) (ht : (pc : Int) + off = (tgt : Int)) (kt : ¬ x = 0 → G k nL tgt lv st w) (kf : x = 0 → G k nL (pc + 3) lv st w) : G k nL pc lv (.int x :: st) w := by
  obtain ⟨p, l, e, R, s, m, args, below, meth, c, D, ad, A, cells, slots, Q⟩ := k
  obtain ⟨hx, hb, hml, hown, hts, hK, hN, hrm⟩ := C
  intro H locs ls hP hD hS hl
  exact lv_if_ne hx hb hd ht (fun q => kt q H locs ls hP hD hS hl) (fun q => kf q H locs ls hP hD hS hl)
theorem G_icmp_ne {k : KX} {cc : ByteArray} {o nL fr lo : Nat} {cy : Nat → ClassId} {pc : Nat} {lv : List (Nat × Value)} {st : List Value} {w : List va_E} (C : OK k cc o nL cy fr lo) {x y : Int32} {off : Int} {tgt : Nat} (hd : decode cc pc = .ok (.if_icmp .ne off, 3)) (ht : (pc : Int) + off = (tgt : Int)) (kt : ¬ x = y → G k nL tgt lv st w) (kf : x = y → G k nL (pc + 3) lv st w) : G k nL pc lv (.int y :: .int x :: st) w := by
  obtain ⟨p, l, e, R, s, m, args, below, meth, c, D, ad, A, cells, slots, Q⟩ := k
  obtain ⟨hx, hb, hml, hown, hts, hK, hN, hrm⟩ := C
  intro H locs ls hP hD hS hl
  exact lv_icmp_ne hx hb hd ht (fun q => kt q H locs ls hP hD hS hl) (fun q => kf q H locs ls hP hD hS hl)
theorem G_lcmp_ne {k : KX} {cc : ByteArray} {o nL fr lo : Nat} {cy : Nat → ClassId} {pc : Nat} {lv : List (Nat × Value)} {st : List Value} {w : List va_E} (C : OK k cc o nL cy fr lo) {x y : Int64} {off : Int} {tgt : Nat} (h0 : decode cc pc = .ok (.lcmp, 1)) (hd : decode cc (pc + 1) = .ok (.ifCond .ne off, 3)) (ht : ((pc + 1 : Nat) : Int) + off = (tgt : Int)) (kt : ¬ x = y → G k nL tgt lv st w) (kf : x = y → G k nL (pc + 1 + 3) lv st w) : G k nL pc lv (.long y :: .long x :: st) w := by
  obtain ⟨p, l, e, R, s, m, args, below, meth, c, D, ad, A, cells, slots, Q⟩ := k
  obtain ⟨hx, hb, hml, hown, hts, hK, hN, hrm⟩ := C
  intro H locs ls hP hD hS hl
  exact W.lcmp hx hb h0 (lv_if_ne hx hb hd ht (fun q => kt (fun z => q ((lg_cmp_eq x y).mpr z)) H locs ls hP hD hS hl) (fun q => kf ((lg_cmp_eq x y).mp q) H locs ls hP hD hS hl))
theorem G_if_lt {k : KX} {cc : ByteArray} {o nL fr lo : Nat} {cy : Nat → ClassId} {pc : Nat} {lv : List (Nat × Value)} {st : List Value} {w : List va_E} (C : OK k cc o nL cy fr lo) {x : Int32} {off : Int} {tgt : Nat} (hd : decode cc pc = .ok (.ifCond .lt off, 3)) (ht : (pc : Int) + off = (tgt : Int)) (kt : x < 0 → G k nL tgt lv st w) (kf : ¬ x < 0 → G k nL (pc + 3) lv st w) : G k nL pc lv (.int x :: st) w := by
  obtain ⟨p, l, e, R, s, m, args, below, meth, c, D, ad, A, cells, slots, Q⟩ := k
  obtain ⟨hx, hb, hml, hown, hts, hK, hN, hrm⟩ := C
  intro H locs ls hP hD hS hl
  exact lv_if_lt hx hb hd ht (fun q => kt q H locs ls hP hD hS hl) (fun q => kf q H locs ls hP hD hS hl)
theorem G_icmp_lt {k : KX} {cc : ByteArray} {o nL fr lo : Nat} {cy : Nat → ClassId} {pc : Nat} {lv : List (Nat × Value)} {st : List Value} {w : List va_E} (C : OK k cc o nL cy fr lo) {x y : Int32} {off : Int} {tgt : Nat} (hd : decode cc pc = .ok (.if_icmp .lt off, 3)) (ht : (pc : Int) + off = (tgt : Int)) (kt : x < y → G k nL tgt lv st w) (kf : ¬ x < y → G k nL (pc + 3) lv st w) : G k nL pc lv (.int y :: .int x :: st) w := by
  obtain ⟨p, l, e, R, s, m, args, below, meth, c, D, ad, A, cells, slots, Q⟩ := k
  obtain ⟨hx, hb, hml, hown, hts, hK, hN, hrm⟩ := C
  intro H locs ls hP hD hS hl
  exact lv_icmp_lt hx hb hd ht (fun q => kt q H locs ls hP hD hS hl) (fun q => kf q H locs ls hP hD hS hl)
theorem G_lcmp_lt {k : KX} {cc : ByteArray} {o nL fr lo : Nat} {cy : Nat → ClassId} {pc : Nat} {lv : List (Nat × Value)} {st : List Value} {w : List va_E} (C : OK k cc o nL cy fr lo) {x y : Int64} {off : Int} {tgt : Nat} (h0 : decode cc pc = .ok (.lcmp, 1)) (hd : decode cc (pc + 1) = .ok (.ifCond .lt off, 3)) (ht : ((pc + 1 : Nat) : Int) + off = (tgt : Int)) (kt : x < y → G k nL tgt lv st w) (kf : ¬ x < y → G k nL (pc + 1 + 3) lv st w) : G k nL pc lv (.long y :: .long x :: st) w := by
  obtain ⟨p, l, e, R, s, m, args, below, meth, c, D, ad, A, cells, slots, Q⟩ := k
  obtain ⟨hx, hb, hml, hown, hts, hK, hN, hrm⟩ := C
  intro H locs ls hP hD hS hl
  exact W.lcmp hx hb h0 (lv_if_lt hx hb hd ht (fun q => kt ((lg_cmp_lt x y).mp q) H locs ls hP hD hS hl) (fun q => kf (fun z => q ((lg_cmp_lt x y).mpr z)) H locs ls hP hD hS hl))
theorem G_if_ge {k : KX} {cc : ByteArray} {o nL fr lo : Nat} {cy : Nat → ClassId} {pc : Nat} {lv : List (Nat × Value)} {st : List Value} {w : List va_E} (C : OK k cc o nL cy fr lo) {x : Int32} {off : Int} {tgt : Nat} (hd : decode cc pc = .ok (.ifCond .ge off, 3)) (ht : (pc : Int) + off = (tgt : Int)) (kt : 0 ≤ x → G k nL tgt lv st w) (kf : ¬ 0 ≤ x → G k nL (pc + 3) lv st w) : G k nL pc lv (.int x :: st) w := by
  obtain ⟨p, l, e, R, s, m, args, below, meth, c, D, ad, A, cells, slots, Q⟩ := k
  obtain ⟨hx, hb, hml, hown, hts, hK, hN, hrm⟩ := C
  intro H locs ls hP hD hS hl
  exact lv_if_ge hx hb hd ht (fun q => kt q H locs ls hP hD hS hl) (fun q => kf q H locs ls hP hD hS hl)
theorem G_icmp_ge {k : KX} {cc : ByteArray} {o nL fr lo : Nat} {cy : Nat → ClassId} {pc : Nat} {lv : List (Nat × Value)} {st : List Value} {w : List va_E} (C : OK k cc o nL cy fr lo) {x y : Int32} {off : Int} {tgt : Nat} (hd : decode cc pc = .ok (.if_icmp .ge off, 3)) (ht : (pc : Int) + off = (tgt : Int)) (kt : y ≤ x → G k nL tgt lv st w) (kf : ¬ y ≤ x → G k nL (pc + 3) lv st w) : G k nL pc lv (.int y :: .int x :: st) w := by
  obtain ⟨p, l, e, R, s, m, args, below, meth, c, D, ad, A, cells, slots, Q⟩ := k
  obtain ⟨hx, hb, hml, hown, hts, hK, hN, hrm⟩ := C
  intro H locs ls hP hD hS hl
  exact lv_icmp_ge hx hb hd ht (fun q => kt q H locs ls hP hD hS hl) (fun q => kf q H locs ls hP hD hS hl)
theorem G_lcmp_ge {k : KX} {cc : ByteArray} {o nL fr lo : Nat} {cy : Nat → ClassId} {pc : Nat} {lv : List (Nat × Value)} {st : List Value} {w : List va_E} (C : OK k cc o nL cy fr lo) {x y : Int64} {off : Int} {tgt : Nat} (h0 : decode cc pc = .ok (.lcmp, 1)) (hd : decode cc (pc + 1) = .ok (.ifCond .ge off, 3)) (ht : ((pc + 1 : Nat) : Int) + off = (tgt : Int)) (kt : y ≤ x → G k nL tgt lv st w) (kf : ¬ y ≤ x → G k nL (pc + 1 + 3) lv st w) : G k nL pc lv (.long y :: .long x :: st) w := by
  obtain ⟨p, l, e, R, s, m, args, below, meth, c, D, ad, A, cells, slots, Q⟩ := k
  obtain ⟨hx, hb, hml, hown, hts, hK, hN, hrm⟩ := C
  intro H locs ls hP hD hS hl
  exact W.lcmp hx hb h0 (lv_if_ge hx hb hd ht (fun q => kt ((lg_cmp_ge x y).mp q) H locs ls hP hD hS hl) (fun q => kf (fun z => q ((lg_cmp_ge x y).mpr z)) H locs ls hP hD hS hl))
theorem G_if_gt {k : KX} {cc : ByteArray} {o nL fr lo : Nat} {cy : Nat → ClassId} {pc : Nat} {lv : List (Nat × Value)} {st : List Value} {w : List va_E} (C : OK k cc o nL cy fr lo) {x : Int32} {off : Int} {tgt : Nat} (hd : decode cc pc = .ok (.ifCond .gt off, 3)) (ht : (pc : Int) + off = (tgt : Int)) (kt : 0 < x → G k nL tgt lv st w) (kf : ¬ 0 < x → G k nL (pc + 3) lv st w) : G k nL pc lv (.int x :: st) w := by
  obtain ⟨p, l, e, R, s, m, args, below, meth, c, D, ad, A, cells, slots, Q⟩ := k
  obtain ⟨hx, hb, hml, hown, hts, hK, hN, hrm⟩ := C
  intro H locs ls hP hD hS hl
  exact lv_if_gt hx hb hd ht (fun q => kt q H locs ls hP hD hS hl) (fun q => kf q H locs ls hP hD hS hl)
theorem G_icmp_gt {k : KX} {cc : ByteArray} {o nL fr lo : Nat} {cy : Nat → ClassId} {pc : Nat} {lv : List (Nat × Value)} {st : List Value} {w : List va_E} (C : OK k cc o nL cy fr lo) {x y : Int32} {off : Int} {tgt : Nat} (hd : decode cc pc = .ok (.if_icmp .gt off, 3)) (ht : (pc : Int) + off = (tgt : Int)) (kt : y < x → G k nL tgt lv st w) (kf : ¬ y < x → G k nL (pc + 3) lv st w) : G k nL pc lv (.int y :: .int x :: st) w := by
  obtain ⟨p, l, e, R, s, m, args, below, meth, c, D, ad, A, cells, slots, Q⟩ := k
  obtain ⟨hx, hb, hml, hown, hts, hK, hN, hrm⟩ := C
  intro H locs ls hP hD hS hl
  exact lv_icmp_gt hx hb hd ht (fun q => kt q H locs ls hP hD hS hl) (fun q => kf q H locs ls hP hD hS hl)
theorem G_lcmp_gt {k : KX} {cc : ByteArray} {o nL fr lo : Nat} {cy : Nat → ClassId} {pc : Nat} {lv : List (Nat × Value)} {st : List Value} {w : List va_E} (C : OK k cc o nL cy fr lo) {x y : Int64} {off : Int} {tgt : Nat} (h0 : decode cc pc = .ok (.lcmp, 1)) (hd : decode cc (pc + 1) = .ok (.ifCond .gt off, 3)) (ht : ((pc + 1 : Nat) : Int) + off = (tgt : Int)) (kt : y < x → G k nL tgt lv st w) (kf : ¬ y < x → G k nL (pc + 1 + 3) lv st w) : G k nL pc lv (.long y :: .long x :: st) w := by
  obtain ⟨p, l, e, R, s, m, args, below, meth, c, D, ad, A, cells, slots, Q⟩ := k
  obtain ⟨hx, hb, hml, hown, hts, hK, hN, hrm⟩ := C
  intro H locs ls hP hD hS hl
  exact W.lcmp hx hb h0 (lv_if_gt hx hb hd ht (fun q => kt ((lg_cmp_gt x y).mp q) H locs ls hP hD hS hl) (fun q => kf (fun z => q ((lg_cmp_gt x y).mpr z)) H locs ls hP hD hS hl))
theorem G_if_le {k : KX} {cc : ByteArray} {o nL fr lo : Nat} {cy : Nat → ClassId} {pc : Nat} {lv : List (Nat × Value)} {st : List Value} {w : List va_E} (C : OK k cc o nL cy fr lo) {x : Int32} {off : Int} {tgt : Nat} (hd : decode cc pc = .ok (.ifCond .le off, 3)) (ht : (pc : Int) + off = (tgt : Int)) (kt : x ≤ 0 → G k nL tgt lv st w) (kf : ¬ x ≤ 0 → G k nL (pc + 3) lv st w) : G k nL pc lv (.int x :: st) w := by
  obtain ⟨p, l, e, R, s, m, args, below, meth, c, D, ad, A, cells, slots, Q⟩ := k
  obtain ⟨hx, hb, hml, hown, hts, hK, hN, hrm⟩ := C
  intro H locs ls hP hD hS hl
  exact lv_if_le hx hb hd ht (fun q => kt q H locs ls hP hD hS hl) (fun q => kf q H locs ls hP hD hS hl)
theorem G_icmp_le {k : KX} {cc : ByteArray} {o nL fr lo : Nat} {cy : Nat → ClassId} {pc : Nat} {lv : List (Nat × Value)} {st : List Value} {w : List va_E} (C : OK k cc o nL cy fr lo) {x y : Int32} {off : Int} {tgt : Nat} (hd : decode cc pc = .ok (.if_icmp .le off, 3)) (ht : (pc : Int) + off = (tgt : Int)) (kt : x ≤ y → G k nL tgt lv st w) (kf : ¬ x ≤ y → G k nL (pc + 3) lv st w) : G k nL pc lv (.int y :: .int x :: st) w := by
  obtain ⟨p, l, e, R, s, m, args, below, meth, c, D, ad, A, cells, slots, Q⟩ := k
  obtain ⟨hx, hb, hml, hown, hts, hK, hN, hrm⟩ := C
  intro H locs ls hP hD hS hl
  exact lv_icmp_le hx hb hd ht (fun q => kt q H locs ls hP hD hS hl) (fun q => kf q H locs ls hP hD hS hl)
theorem G_lcmp_le {k : KX} {cc : ByteArray} {o nL fr lo : Nat} {cy : Nat → ClassId} {pc : Nat} {lv : List (Nat × Value)} {st : List Value} {w : List va_E} (C : OK k cc o nL cy fr lo) {x y : Int64} {off : Int} {tgt : Nat} (h0 : decode cc pc = .ok (.lcmp, 1)) (hd : decode cc (pc + 1) = .ok (.ifCond .le off, 3)) (ht : ((pc + 1 : Nat) : Int) + off = (tgt : Int)) (kt : x ≤ y → G k nL tgt lv st w) (kf : ¬ x ≤ y → G k nL (pc + 1 + 3) lv st w) : G k nL pc lv (.long y :: .long x :: st) w := by
  obtain ⟨p, l, e, R, s, m, args, below, meth, c, D, ad, A, cells, slots, Q⟩ := k
  obtain ⟨hx, hb, hml, hown, hts, hK, hN, hrm⟩ := C
  intro H locs ls hP hD hS hl
  exact W.lcmp hx hb h0 (lv_if_le hx hb hd ht (fun q => kt ((lg_cmp_le x y).mp q) H locs ls hP hD hS hl) (fun q => kf (fun z => q ((lg_cmp_le x y).mpr z)) H locs ls hP hD hS hl))
theorem G_idiv {k : KX} {cc : ByteArray} {o nL fr lo : Nat} {cy : Nat → ClassId} {pc : Nat} {lv : List (Nat × Value)} {st : List Value} {w : List va_E} (C : OK k cc o nL cy fr lo) {x y : Int32} (hd : decode cc pc = .ok (.idiv, 1)) (hne : ¬ y = 0) (h : G k nL (pc + 1) lv (.int (x / y) :: st) w) : G k nL pc lv (.int y :: .int x :: st) w := by
  obtain ⟨p, l, e, R, s, m, args, below, meth, c, D, ad, A, cells, slots, Q⟩ := k
  obtain ⟨hx, hb, hml, hown, hts, hK, hN, hrm⟩ := C
  intro H locs ls hP hD hS hl
  exact lv_idiv hx hb hd hne (h H locs ls hP hD hS hl)
theorem G_irem {k : KX} {cc : ByteArray} {o nL fr lo : Nat} {cy : Nat → ClassId} {pc : Nat} {lv : List (Nat × Value)} {st : List Value} {w : List va_E} (C : OK k cc o nL cy fr lo) {x y : Int32} (hd : decode cc pc = .ok (.irem, 1)) (hne : ¬ y = 0) (h : G k nL (pc + 1) lv (.int (x - x / y * y) :: st) w) : G k nL pc lv (.int y :: .int x :: st) w := by
  obtain ⟨p, l, e, R, s, m, args, below, meth, c, D, ad, A, cells, slots, Q⟩ := k
  obtain ⟨hx, hb, hml, hown, hts, hK, hN, hrm⟩ := C
  intro H locs ls hP hD hS hl
  exact lv_irem hx hb hd hne (h H locs ls hP hD hS hl)
theorem G_ldiv {k : KX} {cc : ByteArray} {o nL fr lo : Nat} {cy : Nat → ClassId} {pc : Nat} {lv : List (Nat × Value)} {st : List Value} {w : List va_E} (C : OK k cc o nL cy fr lo) {x y : Int64} (hd : decode cc pc = .ok (.ldiv, 1)) (hne : ¬ y = 0) (h : G k nL (pc + 1) lv (.long (x / y) :: st) w) : G k nL pc lv (.long y :: .long x :: st) w := by
  obtain ⟨p, l, e, R, s, m, args, below, meth, c, D, ad, A, cells, slots, Q⟩ := k
  obtain ⟨hx, hb, hml, hown, hts, hK, hN, hrm⟩ := C
  intro H locs ls hP hD hS hl
  exact lv_ldiv hx hb hd hne (h H locs ls hP hD hS hl)
theorem G_lrem {k : KX} {cc : ByteArray} {o nL fr lo : Nat} {cy : Nat → ClassId} {pc : Nat} {lv : List (Nat × Value)} {st : List Value} {w : List va_E} (C : OK k cc o nL cy fr lo) {x y : Int64} (hd : decode cc pc = .ok (.lrem, 1)) (hne : ¬ y = 0) (h : G k nL (pc + 1) lv (.long (x - x / y * y) :: st) w) : G k nL pc lv (.long y :: .long x :: st) w := by
  obtain ⟨p, l, e, R, s, m, args, below, meth, c, D, ad, A, cells, slots, Q⟩ := k
  obtain ⟨hx, hb, hml, hown, hts, hK, hN, hrm⟩ := C
  intro H locs ls hP hD hS hl
  exact lv_lrem hx hb hd hne (h H locs ls hP hD hS hl)
theorem G_iald {k : KX} {cc : ByteArray} {o nL fr lo : Nat} {cy : Nat → ClassId} {pc : Nat} {lv : List (Nat × Value)} {st : List Value} {w : List va_E} (C : OK k cc o nL cy fr lo) {a n : Nat} {f : Nat → Int32} {i : Int32} (hw : w[a]? = some (.inl (cy 0, n, .inl f))) (hin : ¬ (i < 0 ∨ n ≤ i.toNatClampNeg)) (hd : decode cc pc = .ok (.iaload, 1)) (h : G k nL (pc + 1) lv (.int (f i.toNatClampNeg) :: st) w) : G k nL pc lv (.int i :: .ref a :: st) w := by
  obtain ⟨p, l, e, R, s, m, args, below, meth, c, D, ad, A, cells, slots, Q⟩ := k
  obtain ⟨hx, hb, hml, hown, hts, hK, hN, hrm⟩ := C
  intro H locs ls hP hD hS hl
  exact va_iald hx hb hK hP a 0 (wd_at hw) rfl hin hd (h H locs ls hP hD hS hl)
theorem G_bald {k : KX} {cc : ByteArray} {o nL fr lo : Nat} {cy : Nat → ClassId} {pc : Nat} {lv : List (Nat × Value)} {st : List Value} {w : List va_E} (C : OK k cc o nL cy fr lo) {a n : Nat} {f : Nat → Int32} {i : Int32} (hw : w[a]? = some (.inl (cy 2, n, .inl f))) (hin : ¬ (i < 0 ∨ n ≤ i.toNatClampNeg)) (hd : decode cc pc = .ok (.baload, 1)) (h : G k nL (pc + 1) lv (.int (f i.toNatClampNeg) :: st) w) : G k nL pc lv (.int i :: .ref a :: st) w := by
  obtain ⟨p, l, e, R, s, m, args, below, meth, c, D, ad, A, cells, slots, Q⟩ := k
  obtain ⟨hx, hb, hml, hown, hts, hK, hN, hrm⟩ := C
  intro H locs ls hP hD hS hl
  exact va_bald hx hb hK hP a 2 (wd_at hw) rfl hin hd (h H locs ls hP hD hS hl)
theorem G_lald {k : KX} {cc : ByteArray} {o nL fr lo : Nat} {cy : Nat → ClassId} {pc : Nat} {lv : List (Nat × Value)} {st : List Value} {w : List va_E} (C : OK k cc o nL cy fr lo) {a n : Nat} {f : Nat → Int64} {i : Int32} (hw : w[a]? = some (.inl (cy 1, n, .inr (.inl f)))) (hin : ¬ (i < 0 ∨ n ≤ i.toNatClampNeg)) (hd : decode cc pc = .ok (.laload, 1)) (h : G k nL (pc + 1) lv (.long (f i.toNatClampNeg) :: st) w) : G k nL pc lv (.int i :: .ref a :: st) w := by
  obtain ⟨p, l, e, R, s, m, args, below, meth, c, D, ad, A, cells, slots, Q⟩ := k
  obtain ⟨hx, hb, hml, hown, hts, hK, hN, hrm⟩ := C
  intro H locs ls hP hD hS hl
  exact va_lald hx hb hK hP a 1 (wd_at hw) rfl hin hd (h H locs ls hP hD hS hl)
theorem G_iast {k : KX} {cc : ByteArray} {o nL fr lo : Nat} {cy : Nat → ClassId} {pc : Nat} {lv : List (Nat × Value)} {st : List Value} {w : List va_E} (C : OK k cc o nL cy fr lo) {a n : Nat} {f : Nat → Int32} {i : Int32} {x : Int32} {w' : List va_E} (hw : w[a]? = some (.inl (cy 0, n, .inl f))) (hin : ¬ (i < 0 ∨ n ≤ i.toNatClampNeg)) (hd : decode cc pc = .ok (.iastore, 1)) (hw2 : w.set a (.inl (cy 0, n, .inl (upd f i.toNatClampNeg x))) = w') (h : G k nL (pc + 1) lv st w') : G k nL pc lv (.int x :: .int i :: .ref a :: st) w := by
  obtain ⟨p, l, e, R, s, m, args, below, meth, c, D, ad, A, cells, slots, Q⟩ := k
  obtain ⟨hx, hb, hml, hown, hts, hK, hN, hrm⟩ := C
  intro H locs ls hP hD hS hl
  subst hw2
  refine va_iast hx hb hK hP hD hS a 0 (wd_at hw) rfl hin hd (fun H1 locs1 hP1 hD1 hS1 => ?_)
  exact h H1 locs1 ls (by rw [wd_set]; exact hP1) (by rw [wd_set]; exact hD1) hS1 hl
theorem G_bast {k : KX} {cc : ByteArray} {o nL fr lo : Nat} {cy : Nat → ClassId} {pc : Nat} {lv : List (Nat × Value)} {st : List Value} {w : List va_E} (C : OK k cc o nL cy fr lo) {a n : Nat} {f : Nat → Int32} {i : Int32} {x : Int32} {w' : List va_E} (hw : w[a]? = some (.inl (cy 2, n, .inl f))) (hin : ¬ (i < 0 ∨ n ≤ i.toNatClampNeg)) (hd : decode cc pc = .ok (.bastore, 1)) (hw2 : w.set a (.inl (cy 2, n, .inl (upd f i.toNatClampNeg (vp_nar .byte x)))) = w') (h : G k nL (pc + 1) lv st w') : G k nL pc lv (.int x :: .int i :: .ref a :: st) w := by
  obtain ⟨p, l, e, R, s, m, args, below, meth, c, D, ad, A, cells, slots, Q⟩ := k
  obtain ⟨hx, hb, hml, hown, hts, hK, hN, hrm⟩ := C
  intro H locs ls hP hD hS hl
  subst hw2
  refine va_bast hx hb hK hP hD hS a 2 (wd_at hw) rfl hin hd (fun H1 locs1 hP1 hD1 hS1 => ?_)
  exact h H1 locs1 ls (by rw [wd_set]; exact hP1) (by rw [wd_set]; exact hD1) hS1 hl
theorem G_last {k : KX} {cc : ByteArray} {o nL fr lo : Nat} {cy : Nat → ClassId} {pc : Nat} {lv : List (Nat × Value)} {st : List Value} {w : List va_E} (C : OK k cc o nL cy fr lo) {a n : Nat} {f : Nat → Int64} {i : Int32} {x : Int64} {w' : List va_E} (hw : w[a]? = some (.inl (cy 1, n, .inr (.inl f)))) (hin : ¬ (i < 0 ∨ n ≤ i.toNatClampNeg)) (hd : decode cc pc = .ok (.lastore, 1)) (hw2 : w.set a (.inl (cy 1, n, .inr (.inl (vp_updL f i.toNatClampNeg x)))) = w') (h : G k nL (pc + 1) lv st w') : G k nL pc lv (.long x :: .int i :: .ref a :: st) w := by
  obtain ⟨p, l, e, R, s, m, args, below, meth, c, D, ad, A, cells, slots, Q⟩ := k
  obtain ⟨hx, hb, hml, hown, hts, hK, hN, hrm⟩ := C
  intro H locs ls hP hD hS hl
  subst hw2
  refine va_last hx hb hK hP hD hS a 1 (wd_at hw) rfl hin hd (fun H1 locs1 hP1 hD1 hS1 => ?_)
  exact h H1 locs1 ls (by rw [wd_set]; exact hP1) (by rw [wd_set]; exact hD1) hS1 hl
theorem G_alen {k : KX} {cc : ByteArray} {o nL fr lo : Nat} {cy : Nat → ClassId} {pc : Nat} {lv : List (Nat × Value)} {st : List Value} {w : List va_E} (C : OK k cc o nL cy fr lo) {a : Nat} {x : vp_A} {t0 : Nat} {ty : FieldType} {cA : ClassId} (hw : w[a]? = some (.inl (cA, x))) (ht : (tysOf cy)[t0]? = some (cA, ty)) {v : Int32} (hv : Int32.ofNat x.1 = v) (hd : decode cc pc = .ok (.arraylength, 1)) (h : G k nL (pc + 1) lv (.int v :: st) w) : G k nL pc lv (.ref a :: st) w := by
  obtain ⟨p, l, e, R, s, m, args, below, meth, c, D, ad, A, cells, slots, Q⟩ := k
  obtain ⟨hx, hb, hml, hown, hts, hK, hN, hrm⟩ := C
  intro H locs ls hP hD hS hl
  exact va_alen hx hb hK hP a t0 (wd_at hw) ht hv hd (h H locs ls hP hD hS hl)
theorem G_putZ {k : KX} {cc : ByteArray} {o nL fr lo : Nat} {cy : Nat → ClassId} {pc : Nat} {lv : List (Nat × Value)} {st : List Value} {w : List va_E} (C : OK k cc o nL cy fr lo) {idx ci kf a : Nat} {fs : List Value} {b : Bool} {w' : List va_E} (hf : (o, idx, ci, kf) ∈ flL) (hw : w[a]? = some (.inr (ci, fs))) (hlt : kf < fs.length) (hty : tyN ci kf = .boolean) (hfin : ((clN ci).2.1 kf).2.2.2 = false) (hd : decode cc pc = .ok (.putfield idx, 3)) (hw2 : w.set a (.inr (ci, fs.set kf (.int (bI b)))) = w') (h : G k nL (pc + 3) lv st w') : G k nL pc lv (.int (bI b) :: .ref a :: st) w := by
  obtain ⟨p, l, e, R, s, m, args, below, meth, c, D, ad, A, cells, slots, Q⟩ := k
  obtain ⟨hx, hb, hml, hown, hts, hK, hN, hrm⟩ := C
  intro H locs ls hP hD hS hl
  have hf := fl_ok hf
  subst hw2
  have hlt' : kf < (fs.map (reV ad)).length := by rw [List.length_map]; exact hlt
  refine va_put (C := (clN ci).1) (T := (clN ci).2.1) (N := (clN ci).2.2) (ty := .boolean) (v := .int (bI b)) hx hb hts (cl_in ci hf.2.1) (tyN ci) (cl_ty ci hf.2.1) (cl_nm ci hf.2.1) hown hK hP hD hS a (wd_at hw) (cl_at ci hf.2.1) kf hf.2.2 (hts _ hf.1) (fun _ q => q) hfin (by rw [cl_ty ci hf.2.1 kf hf.2.2, hty]) (bI_nar b) (bI_fit b) hlt' hd (fun H1 locs1 hP1 hD1 hS1 => ?_)
  have e2 : wd ad (w.set a (.inr (ci, fs.set kf (.int (bI b))))) = (wd ad w).set a (ad a, .inr (ci, (fs.map (reV ad)).set kf (.int (bI b)))) := by
    rw [wd_set]
    show _ = (wd ad w).set a (ad a, .inr (ci, (fs.map (reV ad)).set kf (reV ad (.int (bI b)))))
    rw [← List.map_set]
    rfl
  exact h H1 locs1 ls (by rw [e2]; exact hP1) (by rw [e2]; exact hD1) hS1 hl
theorem G_ldc {k : KX} {cc : ByteArray} {o nL fr lo : Nat} {cy : Nat → ClassId} {pc : Nat} {lv : List (Nat × Value)} {st : List Value} {w : List va_E} (C : OK k cc o nL cy fr lo) {idx : Nat} {v : Int32} (hc : Cond.constant (ownN o) idx v ∈ tbl) (hd : decode cc pc = .ok (.ldc idx, 2)) (h : G k nL (pc + 2) lv (.int v :: st) w) : G k nL pc lv st w := by
  obtain ⟨p, l, e, R, s, m, args, below, meth, c, D, ad, A, cells, slots, Q⟩ := k
  obtain ⟨hx, hb, hml, hown, hts, hK, hN, hrm⟩ := C
  intro H locs ls hP hD hS hl
  exact lv_ldc hx hb hown (hts _ hc) hd (h H locs ls hP hD hS hl)
theorem G_ldcw {k : KX} {cc : ByteArray} {o nL fr lo : Nat} {cy : Nat → ClassId} {pc : Nat} {lv : List (Nat × Value)} {st : List Value} {w : List va_E} (C : OK k cc o nL cy fr lo) {idx : Nat} {v : Int32} (hc : Cond.constant (ownN o) idx v ∈ tbl) (hd : decode cc pc = .ok (.ldc_w idx, 3)) (h : G k nL (pc + 3) lv (.int v :: st) w) : G k nL pc lv st w := by
  obtain ⟨p, l, e, R, s, m, args, below, meth, c, D, ad, A, cells, slots, Q⟩ := k
  obtain ⟨hx, hb, hml, hown, hts, hK, hN, hrm⟩ := C
  intro H locs ls hP hD hS hl
  exact lv_ldcw hx hb hown (hts _ hc) hd (h H locs ls hP hD hS hl)
theorem G_ldc2 {k : KX} {cc : ByteArray} {o nL fr lo : Nat} {cy : Nat → ClassId} {pc : Nat} {lv : List (Nat × Value)} {st : List Value} {w : List va_E} (C : OK k cc o nL cy fr lo) {idx : Nat} {v : Int64} (hc : Cond.constantLong (ownN o) idx v ∈ tbl) (hd : decode cc pc = .ok (.ldc2_w idx, 3)) (h : G k nL (pc + 3) lv (.long v :: st) w) : G k nL pc lv st w := by
  obtain ⟨p, l, e, R, s, m, args, below, meth, c, D, ad, A, cells, slots, Q⟩ := k
  obtain ⟨hx, hb, hml, hown, hts, hK, hN, hrm⟩ := C
  intro H locs ls hP hD hS hl
  exact lv_ldc2 hx hb hown (hts _ hc) hd (h H locs ls hP hD hS hl)
theorem G_tabIn {k : KX} {cc : ByteArray} {o nL fr lo : Nat} {cy : Nat → ClassId} {pc : Nat} {lv : List (Nat × Value)} {st : List Value} {w : List va_E} (C : OK k cc o nL cy fr lo) {dflt lo1 hi : Int} {offs : Array Int} {len : Nat} {x v : Int32} {off : Int} {tgt : Nat} (hd : decode cc pc = .ok (.tableswitch dflt lo1 hi offs, len)) (hv : x = v) (h1 : ¬ v.toInt < lo1) (h2 : ¬ hi < v.toInt) (ho : offs[(v.toInt - lo1).toNat]? = some off) (ht : (pc : Int) + off = (tgt : Int)) (h : G k nL tgt lv st w) : G k nL pc lv (.int x :: st) w := by
  obtain ⟨p, l, e, R, s, m, args, below, meth, c, D, ad, A, cells, slots, Q⟩ := k
  obtain ⟨hx, hb, hml, hown, hts, hK, hN, hrm⟩ := C
  intro H locs ls hP hD hS hl
  subst hv
  exact lv_tableIn hx hb hd h1 h2 ho ht (h H locs ls hP hD hS hl)
theorem G_tabOut {k : KX} {cc : ByteArray} {o nL fr lo : Nat} {cy : Nat → ClassId} {pc : Nat} {lv : List (Nat × Value)} {st : List Value} {w : List va_E} (C : OK k cc o nL cy fr lo) {dflt lo1 hi : Int} {offs : Array Int} {len : Nat} {x : Int32} {tgt : Nat} (hd : decode cc pc = .ok (.tableswitch dflt lo1 hi offs, len)) (h1 : x.toInt < lo1 ∨ hi < x.toInt) (ht : (pc : Int) + dflt = (tgt : Int)) (h : G k nL tgt lv st w) : G k nL pc lv (.int x :: st) w := by
  obtain ⟨p, l, e, R, s, m, args, below, meth, c, D, ad, A, cells, slots, Q⟩ := k
  obtain ⟨hx, hb, hml, hown, hts, hK, hN, hrm⟩ := C
  intro H locs ls hP hD hS hl
  exact lv_tableOut hx hb hd h1 ht (h H locs ls hP hD hS hl)
theorem G_lkIn {k : KX} {cc : ByteArray} {o nL fr lo : Nat} {cy : Nat → ClassId} {pc : Nat} {lv : List (Nat × Value)} {st : List Value} {w : List va_E} (C : OK k cc o nL cy fr lo) {dflt : Int} {ps : Array (Int × Int)} {len : Nat} {x v : Int32} {off : Int} {tgt : Nat} (hd : decode cc pc = .ok (.lookupswitch dflt ps, len)) (hp : (ps.toList.zip (ps.toList.drop 1)).all (fun (a, next) => a.1 < next.1) = true) (hv : x = v) (ho : Op.lookupswitch.offset ps.toList dflt v.toInt = off) (ht : (pc : Int) + off = (tgt : Int)) (h : G k nL tgt lv st w) : G k nL pc lv (.int x :: st) w := by
  obtain ⟨p, l, e, R, s, m, args, below, meth, c, D, ad, A, cells, slots, Q⟩ := k
  obtain ⟨hx, hb, hml, hown, hts, hK, hN, hrm⟩ := C
  intro H locs ls hP hD hS hl
  subst hv
  exact lv_lookup hx hb hd hp ho ht (h H locs ls hP hD hS hl)
theorem G_lkOut {k : KX} {cc : ByteArray} {o nL fr lo : Nat} {cy : Nat → ClassId} {pc : Nat} {lv : List (Nat × Value)} {st : List Value} {w : List va_E} (C : OK k cc o nL cy fr lo) {dflt : Int} {ps : Array (Int × Int)} {len : Nat} {x : Int32} {tgt : Nat} (hd : decode cc pc = .ok (.lookupswitch dflt ps, len)) (hp : (ps.toList.zip (ps.toList.drop 1)).all (fun (a, next) => a.1 < next.1) = true) (ho : Op.lookupswitch.offset ps.toList dflt x.toInt = dflt) (ht : (pc : Int) + dflt = (tgt : Int)) (h : G k nL tgt lv st w) : G k nL pc lv (.int x :: st) w := by
  obtain ⟨p, l, e, R, s, m, args, below, meth, c, D, ad, A, cells, slots, Q⟩ := k
  obtain ⟨hx, hb, hml, hown, hts, hK, hN, hrm⟩ := C
  intro H locs ls hP hD hS hl
  exact lv_lookup hx hb hd hp ho ht (h H locs ls hP hD hS hl)
theorem neT {x v : Int32} (h : ¬ x = v) : ¬ x.toInt = v.toInt := fun q => h (Int32.toInt_inj.mp q)
theorem oob {α : Type} {P : Prop} [Decidable P] {a : Option α} {r : α} (h : (if P then none else a) = some r) : ¬ P ∧ a = some r := by
  by_cases c : P
  · rw [if_pos c] at h; cases h
  · rw [if_neg c] at h; exact ⟨c, h⟩
theorem obd {α β : Type} {x : Option α} {f : α → Option β} {b : β} (h : x.bind f = some b) : ∃ a, x = some a ∧ f a = some b := by
  cases x with
  | none => cases h
  | some a => exact ⟨a, rfl, h⟩
def rl (ρ : List Nat) (i : Nat) : Nat := ρ.getD i 0
def putW : List va_E → List Nat → List va_E → List va_E
  | w, i :: ρ, c :: cs => putW (w.set i c) ρ cs
  | w, _, _ => w
theorem putW_len : ∀ (ρ : List Nat) (cs w : List va_E), (putW w ρ cs).length = w.length
  | [], cs, w => by cases cs <;> rfl
  | i :: ρ, [], w => rfl
  | i :: ρ, c :: cs, w => by rw [putW, putW_len ρ cs, List.length_set]
theorem putW_out : ∀ (ρ : List Nat) (cs w : List va_E) (i : Nat), (∀ j, j < cs.length → ρ[j]? ≠ some i) → (putW w ρ cs)[i]? = w[i]?
  | [], cs, w, i, _ => by cases cs <;> rfl
  | a :: ρ, [], w, i, _ => rfl
  | a :: ρ, c :: cs, w, i, h => by
    rw [putW, putW_out ρ cs (w.set a c) i (fun j hj => by have := h (j + 1) (by rw [List.length_cons]; omega); rwa [List.getElem?_cons_succ] at this)]
    have h0 : a ≠ i := fun q => h 0 (by rw [List.length_cons]; omega) (by rw [List.getElem?_cons_zero, q])
    exact List.getElem?_set_ne h0
theorem putW_in : ∀ (ρ : List Nat) (cs w : List va_E) (j i : Nat) (c : va_E), va_nd (ρ.take cs.length) = true → ρ[j]? = some i → cs[j]? = some c → i < w.length → (putW w ρ cs)[i]? = some c
  | [], cs, w, j, i, c, _, h, _, _ => by simp at h
  | a :: ρ, [], w, j, i, c, _, _, h, _ => by simp at h
  | a :: ρ, d :: cs, w, 0, i, c, hn, h1, h2, hl => by
    rw [List.getElem?_cons_zero] at h1 h2
    cases h1
    cases h2
    rw [putW]
    have hn2 : (decide (a ∉ ρ.take cs.length) && va_nd (ρ.take cs.length)) = true := hn
    rw [Bool.and_eq_true] at hn2
    have hni := of_decide_eq_true hn2.1
    rw [putW_out ρ cs (w.set a d) a (fun j hj q => hni (List.mem_of_getElem? (i := j) (by rw [List.getElem?_take, if_pos hj]; exact q)))]
    rw [List.getElem?_set_self hl]
  | a :: ρ, d :: cs, w, j + 1, i, c, hn, h1, h2, hl => by
    rw [List.getElem?_cons_succ] at h1 h2
    have hn2 : (decide (a ∉ ρ.take cs.length) && va_nd (ρ.take cs.length)) = true := hn
    rw [Bool.and_eq_true] at hn2
    rw [putW]
    exact putW_in ρ cs (w.set a d) j i c hn2.2 h1 h2 (by rw [List.length_set]; exact hl)
/-- the words of a call -/
def LkV (o idx : Nat) (y : MethodName) (bytes : ByteArray) (maxL n : Nat) (ret : Option FieldType) : Prop := Cond.methodLink (ownN o) idx y ∈ tbl ∧ Cond.instanceMethod y ∈ tbl ∧ Cond.selects y.cls y y ∈ tbl ∧ Cond.initialized y.cls ∈ tbl ∧ Cond.code y bytes maxL ret ∈ tbl ∧ y.cls ≠ "java/lang/invoke/MethodHandle" ∧ y.cls ≠ "java/lang/invoke/VarHandle" ∧ (parseMethodDescriptor y.desc).map (fun d => d.parameters.length) = some n
def LkS (o idx : Nat) (y : MethodName) (bytes : ByteArray) (maxL n : Nat) (ret : Option FieldType) : Prop := Cond.methodLink (ownN o) idx y ∈ tbl ∧ Cond.static y ∈ tbl ∧ Cond.initialized y.cls ∈ tbl ∧ Cond.code y bytes maxL ret ∈ tbl ∧ y.cls ≠ "java/lang/invoke/MethodHandle" ∧ y.cls ≠ "java/lang/invoke/VarHandle" ∧ (parseMethodDescriptor y.desc).map (fun d => d.parameters.length) = some n
def LkN (o idx : Nat) (y : MethodName) (bytes : ByteArray) (maxL n : Nat) (ret : Option FieldType) : Prop := (ownN o, idx, y, RX6) ∈ nestL ∧ Cond.static y ∈ tbl ∧ Cond.initialized y.cls ∈ tbl ∧ Cond.code y bytes maxL ret ∈ tbl ∧ y.cls ≠ "java/lang/invoke/MethodHandle" ∧ y.cls ≠ "java/lang/invoke/VarHandle" ∧ (parseMethodDescriptor y.desc).map (fun d => d.parameters.length) = some n
section QC
variable {p : Program} {l : Launch} {e : Env} {R : Room} {s : State} {m : MethodId} {args : Array Value} {below : List Frame} {meth : Method} {c : Code} {H : Heap} {locs : List Loc} {cells slots : Nat} {Q : State → Prop} {D : va_G} {cy : Nat → ClassId} {A A1 : Nat → Prop} {ad : Nat → Nat}
theorem q_call {pc : Nat} {ls : Array Slot} {rest st0 : List Value} {a : Array Value} {H0 : Heap} {V : Option Value} {wc' : List va_E} {ad1 : Nat → Nat} (hr : va_Run p l e R s m args below meth c H locs cells slots 0 0 (F0 m pc ls st0) rest (QG D cy ad1 A1 V wc' a) A1) (hS : va_S A H0 H locs) (hA : ∀ q, A1 q → A q)
    (kk : ∀ (H1 : Heap) (locs1 : List Loc), va_P D classes (wd ad1 wc') H1 → H.size ≤ H1.size → (∀ q : Nat, q < H.size → ¬ A1 q → H1[q]? = H[q]?) → va_S A H0 H1 locs1 → W p l e R s m args below meth c H1 locs1 cells slots Q (F0 m (pc + 3) ls ((V.map (reV ad1)).toList ++ rest))) : W p l e R s m args below meth c H locs cells slots Q (F0 m pc ls st0) := by
  intro T hT X
  obtain ⟨v, st₀, t, T', L, h0, X', hL, e1, e2, ⟨⟨hv, hP1, hK1, hD1⟩, hz, hk⟩, st⟩ := hr T hT X
  cases hv
  rw [h0] at hz hk
  obtain ⟨t2, a1, b1⟩ := kk T'.heap (locs ++ L) (by rw [e1]; exact hP1) (by rw [e1]; exact hz) (fun q h1 h2 => by rw [e1]; exact hk q h1 h2)
    ⟨Nat.le_trans hS.1 (by rw [e1]; exact hz), fun q h1 h2 => by rw [e1, hk q (Nat.lt_of_lt_of_le h1 hS.1) (fun z => h2 (hA q z))]; exact hS.2.1 q h1 h2, fun q hq => by
      rcases List.mem_append.mp hq with h | h
      · exact hS.2.2 q h
      · exact hA _ (hL q h)⟩ T' rfl X'
  exact ⟨t2, st t2 a1, b1⟩
/-- the callee's cells of the caller's world -/
theorem q_at {ρ : List Nat} {w wc : List va_E} (hw : (ρ.take wc.length).map (fun i => w[i]?) = wc.map (fun c => some (reE (rl ρ) c))) {j : Nat} {cj : va_E} (h : wc[j]? = some cj) : ρ[j]? = some (rl ρ j) ∧ w[rl ρ j]? = some (reE (rl ρ) cj) := by
  have hj : j < wc.length := (List.getElem?_eq_some_iff.mp h).1
  have h1 : ((ρ.take wc.length).map (fun i => w[i]?))[j]? = some (some (reE (rl ρ) cj)) := by rw [hw, List.getElem?_map, h]; rfl
  rw [List.getElem?_map, List.getElem?_take, if_pos hj] at h1
  cases hr : ρ[j]? with
  | none => rw [hr] at h1; cases h1
  | some i =>
    have e : rl ρ j = i := by unfold rl; rw [List.getD_eq_getElem?_getD, hr]; rfl
    rw [hr] at h1
    rw [e]
    exact ⟨rfl, Option.some.inj h1⟩
theorem q_pre {ρ : List Nat} {w wc : List va_E} (hw : (ρ.take wc.length).map (fun i => w[i]?) = wc.map (fun c => some (reE (rl ρ) c))) (hnd : va_nd (ρ.take wc.length) = true) (hP : va_P D classes (wd ad w) H) (hD : va_D A (wd ad w)) :
    va_P D classes (wd (fun j => ad (rl ρ j)) wc) H ∧ va_D (fun q => ∃ j, j < wc.length ∧ q = ad (rl ρ j)) (wd (fun j => ad (rl ρ j)) wc) := by
  have key : ∀ (j : Nat) (q : Nat × va_E), (wd (fun j => ad (rl ρ j)) wc)[j]? = some q → j < wc.length ∧ ρ[j]? = some (rl ρ j) ∧ q.1 = ad (rl ρ j) ∧ (wd ad w)[rl ρ j]? = some q := by
    intro j q hq
    obtain ⟨cj, h1, rfl⟩ := wd_of hq
    obtain ⟨h2, h3⟩ := q_at hw h1
    refine ⟨(List.getElem?_eq_some_iff.mp h1).1, h2, rfl, ?_⟩
    rw [wd_at h3, reE_comp]
  refine ⟨fun j q hq => hP _ q (key j q hq).2.2.2, ⟨fun i j x y hi hj hxy => ?_, fun j q hq => ⟨j, (key j q hq).1, (key j q hq).2.2.1⟩⟩⟩
  obtain ⟨a1, a2, -, a4⟩ := key i x hi
  obtain ⟨b1, b2, -, b4⟩ := key j y hj
  have e := hD.1 _ _ x y a4 b4 hxy
  rw [e] at a2
  exact va_nd_inj _ hnd i j (rl ρ j) (by rw [List.getElem?_take, if_pos a1]; exact a2) (by rw [List.getElem?_take, if_pos b1]; exact b2)
theorem q_post {ρ : List Nat} {w wc wc' w' : List va_E} {H1 : Heap} (hw : (ρ.take wc.length).map (fun i => w[i]?) = wc.map (fun c => some (reE (rl ρ) c))) (hnd : va_nd (ρ.take wc.length) = true) (hlen : wc'.length = wc.length) (hw' : putW w ρ (wc'.map (reE (rl ρ))) = w') (hP : va_P D classes (wd ad w) H) (hD : va_D A (wd ad w))
    (hP1 : va_P D classes (wd (fun j => ad (rl ρ j)) wc') H1) (hk : ∀ q : Nat, q < H.size → ¬ (∃ j, j < wc.length ∧ q = ad (rl ρ j)) → H1[q]? = H[q]?) : va_P D classes (wd ad w') H1 ∧ va_D A (wd ad w') := by
  subst hw'
  have hl2 : (wc'.map (reE (rl ρ))).length = wc.length := by rw [List.length_map, hlen]
  refine ⟨fun i q hq => ?_, ⟨fun i j x y hi hj hxy => ?_, fun i q hq => ?_⟩⟩
  · by_cases hx : ∃ j, j < wc.length ∧ ρ[j]? = some i
    · obtain ⟨j, hj, hr⟩ := hx
      have hj' : j < wc'.length := by rw [hlen]; exact hj
      have e : rl ρ j = i := by unfold rl; rw [List.getD_eq_getElem?_getD, hr]; rfl
      obtain ⟨-, hwi⟩ := q_at hw (List.getElem?_eq_getElem hj)
      have hil : i < w.length := by rw [← e]; exact (List.getElem?_eq_some_iff.mp hwi).1
      have h1 := putW_in ρ (wc'.map (reE (rl ρ))) w j i (reE (rl ρ) wc'[j]) (by rw [hl2]; exact hnd) hr (by rw [List.getElem?_map, List.getElem?_eq_getElem hj']; rfl) hil
      rw [wd_at h1] at hq
      have e2 : q = (ad (rl ρ j), reE (fun j => ad (rl ρ j)) wc'[j]) := by rw [← Option.some.inj hq, reE_comp, e]
      exact hP1 j q (by rw [wd_at (List.getElem?_eq_getElem hj'), e2])
    · obtain ⟨ci, h1, rfl⟩ := wd_of hq
      rw [putW_out ρ (wc'.map (reE (rl ρ))) w i (fun j hj q => hx ⟨j, by rw [← hl2]; exact hj, q⟩)] at h1
      have h2 := hP i _ (wd_at h1)
      refine h2.kept (hk _ h2.lt (fun ⟨j, hj, q⟩ => hx ⟨j, hj, ?_⟩))
      obtain ⟨h3, h4⟩ := q_at hw (List.getElem?_eq_getElem hj)
      rw [h3, hD.1 _ _ _ _ (wd_at h1) (wd_at h4) q]
  · obtain ⟨c1, h1, rfl⟩ := wd_of hi
    obtain ⟨c2, h2, rfl⟩ := wd_of hj
    have l1 := (List.getElem?_eq_some_iff.mp h1).1
    have l2 := (List.getElem?_eq_some_iff.mp h2).1
    rw [putW_len] at l1 l2
    exact hD.1 i j _ _ (wd_at (List.getElem?_eq_getElem l1)) (wd_at (List.getElem?_eq_getElem l2)) hxy
  · obtain ⟨c1, h1, rfl⟩ := wd_of hq
    have l1 := (List.getElem?_eq_some_iff.mp h1).1
    rw [putW_len] at l1
    exact (hD.2 i (ad i, reE ad w[i]) (wd_at (List.getElem?_eq_getElem l1)) : A (ad i))
theorem q_blind {As : List Value} {wc : List va_E} {ad1 : Nat → Nat} : FrameBlind (va_Pc (As.map (reV ad1)) (fun U => va_P D classes (wd ad1 wc) U.heap ∧ va_K D classes (tysOf cy) U ∧ va_D A (wd ad1 wc) ∧ NW U)) := fun a U g mk q => by
  obtain ⟨q0, qP, qK, qD, qN⟩ := q
  exact ⟨q0, qP, va_K.moved (u := U) (U := U.calling g mk a) (Vm.Alike.refl U.vm) qK, qD, NW.same (U := U.calling g mk a) rfl qN⟩
end QC
theorem st_cat (ad : Nat → Nat) (rest : List Value) : ((rest.map (reV ad)).map fun v => v.category) = rest.map fun v => v.category := by
  rw [List.map_map]
  congr 1
  funext v
  exact reV_cat ad v
theorem V_comp (ad : Nat → Nat) (ρ : List Nat) (V : Option Value) (rest : List Value) : (V.map (reV fun j => ad (rl ρ j))).toList ++ rest.map (reV ad) = ((V.map (reV (rl ρ))).toList ++ rest).map (reV ad) := by
  cases V with
  | none => rfl
  | some v => show reV _ v :: _ = reV ad (reV (rl ρ) v) :: _; rw [reV_comp]; rfl
theorem As_comp (ad : Nat → Nat) (ρ : List Nat) (As : List Value) (r : List Value) : ((As.map (reV (rl ρ))).reverse ++ r).map (reV ad) = (As.map (reV fun j => ad (rl ρ j))).reverse ++ r.map (reV ad) := by
  rw [List.map_append, List.map_reverse, List.map_map]
  congr 3
  funext v
  exact reV_comp ad (rl ρ) v
theorem G_callV {k : KX} {cc : ByteArray} {o nL fr lo : Nat} {cy : Nat → ClassId} {pc : Nat} {lv : List (Nat × Value)} {w : List va_E} (C : OK k cc o nL cy fr lo) {idx : Nat} {y : MethodName} {bytes : ByteArray} {maxL n : Nat} {ret : Option FieldType} {fr' lo' : Nat} (L : LkV o idx y bytes maxL n ret) (hroom : fr' + 1 ≤ fr ∧ 8 + (maxL + 11) + lo' ≤ lo) (hd : decode cc pc = .ok (.invokevirtual idx, 3))
    (ρ : List Nat) {As : List Value} {wc wc' : List va_E} {V : Option Value} {ci : Nat} {fs : List Value} {rest st : List Value} {w' : List va_E} (hM : MG cy y bytes maxL ret fr' lo' (.ref 0 :: As) wc V wc') (hst : st = (As.map (reV (rl ρ))).reverse ++ .ref (rl ρ 0) :: rest) (hn : As.length = n) (hcat : (rest.map fun v => v.category).sum ≤ 8)
    (hw : (ρ.take wc.length).map (fun i => w[i]?) = wc.map (fun c => some (reE (rl ρ) c))) (hnd : va_nd (ρ.take wc.length) = true) (hr : wc[0]? = some (.inr (ci, fs)) ∧ (classes[ci]?).map (fun q => q.1) = some y.cls) (hlen : wc'.length = wc.length) (hw' : putW w ρ (wc'.map (reE (rl ρ))) = w')
    (h : G k nL (pc + 3) lv ((V.map (reV (rl ρ))).toList ++ rest) w') : G k nL pc lv st w := by
  obtain ⟨p, l, e, R, s, m, args, below, meth, c, D, ad, A, cells, slots, Q⟩ := k
  obtain ⟨hx, hb, hml, hown, hts, hK, hN, hrm, hce, hsl⟩ := C
  obtain ⟨l1, l2, l3, l4, l5, l6, l7, l8⟩ := L
  intro H locs ls hP hD hS hl
  obtain ⟨hPc, hDc⟩ := q_pre hw hnd hP hD
  subst hst
  have hA : ∀ q, (∃ j, j < wc.length ∧ q = ad (rl ρ j)) → A q := by
    rintro q ⟨j, hj, rfl⟩
    exact hD.2 _ _ (wd_at (q_at hw (List.getElem?_eq_getElem hj)).2)
  have hcw : CallW R s args (ownN o) y.cls idx y bytes maxL ret (Cond.code y bytes maxL ret :: tbl) { frames := fr', cells := 0, slots := 0, locals := lo' } 0 0 n :=
    ⟨callB_of n hts (tb_goodc l5) rfl rfl rfl (hts _ l4) (hts _ l1) ⟨l6, l7, l8⟩ ⟨Nat.le_trans hroom.1 hrm.1, Nat.le_trans hroom.2 hrm.2⟩, hts _ l2, hts _ l3⟩
  obtain ⟨qc, hqc, hqn⟩ : ∃ qc, classes[ci]? = some qc ∧ qc.1 = y.cls := by
    have h2 := hr.2
    cases hq : classes[ci]? with
    | none => rw [hq] at h2; cases h2
    | some qc => rw [hq] at h2; exact ⟨qc, rfl, Option.some.inj h2⟩
  refine q_call (va_runV (As := As.map (reV fun j => ad (rl ρ j))) (b := ad (rl ρ 0)) (rest := rest.map (reV ad)) ⟨hx, hb, hml, hown, hts⟩ (hM l D (fun j => ad (rl ρ j)) (fun q => ∃ j, j < wc.length ∧ q = ad (rl ρ j))) hcw ⟨q_blind, ?_, fun U hU hW => ⟨rfl, by rw [hU]; exact hPc, va_K.moved hW.alike hK, hDc, hN.warm hW⟩⟩ rfl (by rw [List.length_map]; exact hn) hl.1 ?_ (lv_room (by rw [st_cat]; exact hcat)) hd ⟨hce, hsl⟩) hS hA (fun H1 locs1 hP1 hz hk hS1 => ?_)
  · rw [← hqn]
    exact va_recv hK hPc hqc (wd_at hr.1)
  · show List.map (reV ad) _ = _
    rw [As_comp]
    rfl
  · obtain ⟨hP2, hD2⟩ := q_post hw hnd hlen hw' hP hD hP1 hk
    rw [V_comp]
    exact h H1 locs1 ls hP2 hD2 hS1 hl
theorem G_callS {k : KX} {cc : ByteArray} {o nL fr lo : Nat} {cy : Nat → ClassId} {pc : Nat} {lv : List (Nat × Value)} {w : List va_E} (C : OK k cc o nL cy fr lo) {idx : Nat} {y : MethodName} {bytes : ByteArray} {maxL n : Nat} {ret : Option FieldType} {fr' lo' : Nat} (L : LkS o idx y bytes maxL n ret) (hroom : fr' + 1 ≤ fr ∧ 8 + (maxL + 11) + lo' ≤ lo) (hd : decode cc pc = .ok (.invokestatic idx, 3))
    {As : List Value} {V : Option Value} {rest st : List Value} (hM : MG cy y bytes maxL ret fr' lo' As [] V []) (hst : st = (As.map (reV (rl []))).reverse ++ rest) (hn : As.length = n) (hcat : (rest.map fun v => v.category).sum ≤ 8)
    (h : G k nL (pc + 3) lv ((V.map (reV (rl []))).toList ++ rest) w) : G k nL pc lv st w := by
  obtain ⟨p, l, e, R, s, m, args, below, meth, c, D, ad, A, cells, slots, Q⟩ := k
  obtain ⟨hx, hb, hml, hown, hts, hK, hN, hrm, hce, hsl⟩ := C
  obtain ⟨l1, l2, l4, l5, l6, l7, l8⟩ := L
  intro H locs ls hP hD hS hl
  have hw : (([] : List Nat).take ([] : List va_E).length).map (fun i => w[i]?) = ([] : List va_E).map (fun c => some (reE (rl []) c)) := rfl
  obtain ⟨hPc, hDc⟩ := q_pre (ad := ad) hw rfl hP hD
  subst hst
  have hA : ∀ q, (∃ j, j < ([] : List va_E).length ∧ q = ad (rl [] j)) → A q := by
    rintro q ⟨j, hj, rfl⟩
    exact absurd hj (Nat.not_lt_zero j)
  refine q_call (va_runS (As := As.map (reV fun j => ad (rl [] j))) (rest := rest.map (reV ad)) ⟨hx, hb, hml, hown, hts⟩ (hM l D (fun j => ad (rl [] j)) (fun q => ∃ j, j < ([] : List va_E).length ∧ q = ad (rl [] j))) ⟨callB_of n hts (tb_goodc l5) rfl rfl rfl (hts _ l4) (hts _ l1) ⟨l6, l7, l8⟩ ⟨Nat.le_trans hroom.1 hrm.1, Nat.le_trans hroom.2 hrm.2⟩, hts _ l2⟩ ⟨q_blind, fun U hU hW => ⟨rfl, by rw [hU]; exact hPc, va_K.moved hW.alike hK, hDc, hN.warm hW⟩⟩ rfl (by rw [List.length_map]; exact hn) hl.1 ?_ (lv_room (by rw [st_cat]; exact hcat)) hd ⟨hce, hsl⟩) hS hA (fun H1 locs1 hP1 hz hk hS1 => ?_)
  · show List.map (reV ad) _ = _
    rw [As_comp]
  · obtain ⟨hP2, hD2⟩ := q_post (w' := w) hw rfl rfl rfl hP hD hP1 hk
    rw [V_comp]
    exact h H1 locs1 ls hP2 hD2 hS1 hl
theorem G_callN {k : KX} {cc : ByteArray} {o nL fr lo : Nat} {cy : Nat → ClassId} {pc : Nat} {lv : List (Nat × Value)} {w : List va_E} (C : OK k cc o nL cy fr lo) {idx : Nat} {y : MethodName} {bytes : ByteArray} {maxL n : Nat} {ret : Option FieldType} {fr' lo' : Nat} (L : LkN o idx y bytes maxL n ret) (hroom : fr' + 1 ≤ fr ∧ 8 + (maxL + 11) + lo' ≤ lo) (hd : decode cc pc = .ok (.invokestatic idx, 3))
    {As : List Value} {V : Option Value} {rest st : List Value} (hM : MG cy y bytes maxL ret fr' lo' As [] V []) (hst : st = (As.map (reV (rl []))).reverse ++ rest) (hn : As.length = n) (hcat : (rest.map fun v => v.category).sum ≤ 8)
    (h : G k nL (pc + 3) lv ((V.map (reV (rl []))).toList ++ rest) w) : G k nL pc lv st w := by
  obtain ⟨p, l, e, R, s, m, args, below, meth, c, D, ad, A, cells, slots, Q⟩ := k
  obtain ⟨hx, hb, hml, hown, hts, hK, hN, hrm, hce, hsl⟩ := C
  obtain ⟨l1, l2, l4, l5, l6, l7, l8⟩ := L
  intro H locs ls hP hD hS hl
  have hw : (([] : List Nat).take ([] : List va_E).length).map (fun i => w[i]?) = ([] : List va_E).map (fun c => some (reE (rl []) c)) := rfl
  obtain ⟨hPc, hDc⟩ := q_pre (ad := ad) hw rfl hP hD
  subst hst
  have hA : ∀ q, (∃ j, j < ([] : List va_E).length ∧ q = ad (rl [] j)) → A q := by
    rintro q ⟨j, hj, rfl⟩
    exact absurd hj (Nat.not_lt_zero j)
  refine q_call (va_runSN (As := As.map (reV fun j => ad (rl [] j))) (rest := rest.map (reV ad)) ⟨hx, hb, hml, hown, hts⟩ (hM l D (fun j => ad (rl [] j)) (fun q => ∃ j, j < ([] : List va_E).length ∧ q = ad (rl [] j))) ⟨va_cnB n hts (tb_goodc l5) rfl rfl rfl (hN _ l1) (hts _ l4) ⟨l6, l7, l8⟩ ⟨Nat.le_trans hroom.1 hrm.1, Nat.le_trans hroom.2 hrm.2⟩, hts _ l2, trivial⟩ ⟨q_blind, fun U hU hW => ⟨rfl, by rw [hU]; exact hPc, va_K.moved hW.alike hK, hDc, hN.warm hW⟩⟩ rfl (by rw [List.length_map]; exact hn) hl.1 ?_ (lv_room (by rw [st_cat]; exact hcat)) hd ⟨hce, hsl⟩) hS hA (fun H1 locs1 hP1 hz hk hS1 => ?_)
  · show List.map (reV ad) _ = _
    rw [As_comp]
  · obtain ⟨hP2, hD2⟩ := q_post (w' := w) hw rfl rfl rfl hP hD hP1 hk
    rw [V_comp]
    exact h H1 locs1 ls hP2 hD2 hS1 hl
end
