section
-- ===== PART A: goes FIRST, ahead of the names: the tables' words, and 'selects' of the private methods out of them =====
/-- a private method of a class that the tables say can be made, by its rows of tables_1 -/
def lw_okq (q : MethodName × Nat) : Prop := (q.1.cls ≠ "java/lang/invoke/MethodHandle" ∧ q.1.cls ≠ "java/lang/invoke/VarHandle") ∧ Cond.instantiable q.1.cls q.2 ∈ tables_1 ∧ Cond.privateMethod q.1 ∈ tables_1 ∧ Cond.instanceMethod q.1 ∈ tables_1
theorem lw_p0 : lw_okq (⟨"SquaredRows", "refuse", "(I)I"⟩, 12) := ⟨⟨by decide +kernel, by decide +kernel⟩, List.mem_of_getElem? (i := 12) (by decide +kernel), List.mem_of_getElem? (i := 198) (by decide +kernel), List.mem_of_getElem? (i := 199) (by decide +kernel)⟩
theorem lw_p1 : lw_okq (⟨"SquaredRows", "keepTrial", "()V"⟩, 12) := ⟨⟨by decide +kernel, by decide +kernel⟩, List.mem_of_getElem? (i := 12) (by decide +kernel), List.mem_of_getElem? (i := 204) (by decide +kernel), List.mem_of_getElem? (i := 205) (by decide +kernel)⟩
theorem lw_p2 : lw_okq (⟨"SquaredRows$States", "place", "(I)I"⟩, 3) := ⟨⟨by decide +kernel, by decide +kernel⟩, List.mem_of_getElem? (i := 69) (by decide +kernel), List.mem_of_getElem? (i := 212) (by decide +kernel), List.mem_of_getElem? (i := 213) (by decide +kernel)⟩
theorem lw_p3 : lw_okq (⟨"SquaredRows$Row", "takeNext", "(I)I"⟩, 4) := ⟨⟨by decide +kernel, by decide +kernel⟩, List.mem_of_getElem? (i := 20) (by decide +kernel), List.mem_of_getElem? (i := 250) (by decide +kernel), List.mem_of_getElem? (i := 251) (by decide +kernel)⟩
theorem lw_p4 : lw_okq (⟨"SquaredRows$Minors", "expand", "(LSquaredRows$Row;II)J"⟩, 2) := ⟨⟨by decide +kernel, by decide +kernel⟩, List.mem_of_getElem? (i := 54) (by decide +kernel), List.mem_of_getElem? (i := 319) (by decide +kernel), List.mem_of_getElem? (i := 320) (by decide +kernel)⟩
theorem lw_p5 : lw_okq (⟨"SquaredRows$Minors", "minor", "(I)J"⟩, 2) := ⟨⟨by decide +kernel, by decide +kernel⟩, List.mem_of_getElem? (i := 54) (by decide +kernel), List.mem_of_getElem? (i := 330) (by decide +kernel), List.mem_of_getElem? (i := 331) (by decide +kernel)⟩
theorem lw_p6 : lw_okq (⟨"SquaredRows", "findPolynomial", "(I)Z"⟩, 12) := ⟨⟨by decide +kernel, by decide +kernel⟩, List.mem_of_getElem? (i := 12) (by decide +kernel), List.mem_of_getElem? (i := 343) (by decide +kernel), List.mem_of_getElem? (i := 344) (by decide +kernel)⟩
theorem lw_p7 : lw_okq (⟨"SquaredRows", "findRule", "(I)Z"⟩, 12) := ⟨⟨by decide +kernel, by decide +kernel⟩, List.mem_of_getElem? (i := 12) (by decide +kernel), List.mem_of_getElem? (i := 373) (by decide +kernel), List.mem_of_getElem? (i := 374) (by decide +kernel)⟩
theorem lw_p8 : lw_okq (⟨"SquaredRows", "judge", "()V"⟩, 12) := ⟨⟨by decide +kernel, by decide +kernel⟩, List.mem_of_getElem? (i := 12) (by decide +kernel), List.mem_of_getElem? (i := 381) (by decide +kernel), List.mem_of_getElem? (i := 382) (by decide +kernel)⟩
theorem lw_p9 : lw_okq (⟨"SquaredRows", "find", "(IIII)V"⟩, 12) := ⟨⟨by decide +kernel, by decide +kernel⟩, List.mem_of_getElem? (i := 12) (by decide +kernel), List.mem_of_getElem? (i := 386) (by decide +kernel), List.mem_of_getElem? (i := 387) (by decide +kernel)⟩
theorem lw_p10 : lw_okq (⟨"SquaredRows", "findRest", "(I)I"⟩, 12) := ⟨⟨by decide +kernel, by decide +kernel⟩, List.mem_of_getElem? (i := 12) (by decide +kernel), List.mem_of_getElem? (i := 390) (by decide +kernel), List.mem_of_getElem? (i := 391) (by decide +kernel)⟩
theorem lw_p11 : lw_okq (⟨"SquaredRows", "findZeros", "(I)Z"⟩, 12) := ⟨⟨by decide +kernel, by decide +kernel⟩, List.mem_of_getElem? (i := 12) (by decide +kernel), List.mem_of_getElem? (i := 417) (by decide +kernel), List.mem_of_getElem? (i := 418) (by decide +kernel)⟩
theorem lw_p12 : lw_okq (⟨"SquaredRows", "enclose", "(III)I"⟩, 12) := ⟨⟨by decide +kernel, by decide +kernel⟩, List.mem_of_getElem? (i := 12) (by decide +kernel), List.mem_of_getElem? (i := 433) (by decide +kernel), List.mem_of_getElem? (i := 434) (by decide +kernel)⟩
theorem lw_p13 : lw_okq (⟨"SquaredRows$Reader", "forgetNumber", "()V"⟩, 9) := ⟨⟨by decide +kernel, by decide +kernel⟩, List.mem_of_getElem? (i := 99) (by decide +kernel), List.mem_of_getElem? (i := 507) (by decide +kernel), List.mem_of_getElem? (i := 508) (by decide +kernel)⟩
theorem lw_p14 : lw_okq (⟨"SquaredRows$Reader", "accept", "(I)Z"⟩, 9) := ⟨⟨by decide +kernel, by decide +kernel⟩, List.mem_of_getElem? (i := 99) (by decide +kernel), List.mem_of_getElem? (i := 516) (by decide +kernel), List.mem_of_getElem? (i := 517) (by decide +kernel)⟩
theorem lw_p15 : lw_okq (⟨"SquaredRows$Reader", "acceptFigure", "(I)Z"⟩, 9) := ⟨⟨by decide +kernel, by decide +kernel⟩, List.mem_of_getElem? (i := 99) (by decide +kernel), List.mem_of_getElem? (i := 520) (by decide +kernel), List.mem_of_getElem? (i := 521) (by decide +kernel)⟩
def lw_privs_1 : List (MethodName × Nat) := [(⟨"SquaredRows", "refuse", "(I)I"⟩, 12), (⟨"SquaredRows", "keepTrial", "()V"⟩, 12), (⟨"SquaredRows$States", "place", "(I)I"⟩, 3), (⟨"SquaredRows$Row", "takeNext", "(I)I"⟩, 4), (⟨"SquaredRows$Minors", "expand", "(LSquaredRows$Row;II)J"⟩, 2), (⟨"SquaredRows$Minors", "minor", "(I)J"⟩, 2), (⟨"SquaredRows", "findPolynomial", "(I)Z"⟩, 12), (⟨"SquaredRows", "findRule", "(I)Z"⟩, 12), (⟨"SquaredRows", "judge", "()V"⟩, 12), (⟨"SquaredRows", "find", "(IIII)V"⟩, 12), (⟨"SquaredRows", "findRest", "(I)I"⟩, 12), (⟨"SquaredRows", "findZeros", "(I)Z"⟩, 12), (⟨"SquaredRows", "enclose", "(III)I"⟩, 12), (⟨"SquaredRows$Reader", "forgetNumber", "()V"⟩, 9), (⟨"SquaredRows$Reader", "accept", "(I)Z"⟩, 9), (⟨"SquaredRows$Reader", "acceptFigure", "(I)Z"⟩, 9)]
theorem lw_r1 : ∀ q ∈ lw_privs_1, lw_okq q := List.forall_mem_cons.mpr ⟨lw_p0, List.forall_mem_cons.mpr ⟨lw_p1, List.forall_mem_cons.mpr ⟨lw_p2, List.forall_mem_cons.mpr ⟨lw_p3, List.forall_mem_cons.mpr ⟨lw_p4, List.forall_mem_cons.mpr ⟨lw_p5, List.forall_mem_cons.mpr ⟨lw_p6, List.forall_mem_cons.mpr ⟨lw_p7, List.forall_mem_cons.mpr ⟨lw_p8, List.forall_mem_cons.mpr ⟨lw_p9, List.forall_mem_cons.mpr ⟨lw_p10, List.forall_mem_cons.mpr ⟨lw_p11, List.forall_mem_cons.mpr ⟨lw_p12, List.forall_mem_cons.mpr ⟨lw_p13, List.forall_mem_cons.mpr ⟨lw_p14, List.forall_mem_cons.mpr ⟨lw_p15, fun _ h => absurd h List.not_mem_nil⟩⟩⟩⟩⟩⟩⟩⟩⟩⟩⟩⟩⟩⟩⟩⟩
theorem lw_p16 : lw_okq (⟨"SquaredRows$Reader", "given", "()I"⟩, 9) := ⟨⟨by decide +kernel, by decide +kernel⟩, List.mem_of_getElem? (i := 99) (by decide +kernel), List.mem_of_getElem? (i := 524) (by decide +kernel), List.mem_of_getElem? (i := 525) (by decide +kernel)⟩
theorem lw_p17 : lw_okq (⟨"SquaredRows$Reader", "closeNumber", "()V"⟩, 9) := ⟨⟨by decide +kernel, by decide +kernel⟩, List.mem_of_getElem? (i := 99) (by decide +kernel), List.mem_of_getElem? (i := 531) (by decide +kernel), List.mem_of_getElem? (i := 532) (by decide +kernel)⟩
theorem lw_p18 : lw_okq (⟨"SquaredRows$Reader", "openOrder", "(I)Z"⟩, 9) := ⟨⟨by decide +kernel, by decide +kernel⟩, List.mem_of_getElem? (i := 99) (by decide +kernel), List.mem_of_getElem? (i := 535) (by decide +kernel), List.mem_of_getElem? (i := 536) (by decide +kernel)⟩
theorem lw_p19 : lw_okq (⟨"SquaredRows$Reader", "closeOrder", "()Z"⟩, 9) := ⟨⟨by decide +kernel, by decide +kernel⟩, List.mem_of_getElem? (i := 99) (by decide +kernel), List.mem_of_getElem? (i := 539) (by decide +kernel), List.mem_of_getElem? (i := 540) (by decide +kernel)⟩
theorem lw_p20 : lw_okq (⟨"SquaredRows$Reader", "performOne", "(LSquaredRows$Row;I)I"⟩, 9) := ⟨⟨by decide +kernel, by decide +kernel⟩, List.mem_of_getElem? (i := 99) (by decide +kernel), List.mem_of_getElem? (i := 550) (by decide +kernel), List.mem_of_getElem? (i := 551) (by decide +kernel)⟩
theorem lw_p21 : lw_okq (⟨"SquaredRows", "tally", "(I)I"⟩, 12) := ⟨⟨by decide +kernel, by decide +kernel⟩, List.mem_of_getElem? (i := 12) (by decide +kernel), List.mem_of_getElem? (i := 595) (by decide +kernel), List.mem_of_getElem? (i := 596) (by decide +kernel)⟩
theorem lw_p22 : lw_okq (⟨"SquaredRows", "digestPolynomial", "(JI)J"⟩, 12) := ⟨⟨by decide +kernel, by decide +kernel⟩, List.mem_of_getElem? (i := 12) (by decide +kernel), List.mem_of_getElem? (i := 605) (by decide +kernel), List.mem_of_getElem? (i := 606) (by decide +kernel)⟩
theorem lw_p23 : lw_okq (⟨"SquaredRowsModel", "bad", "()I"⟩, 25) := ⟨⟨by decide +kernel, by decide +kernel⟩, List.mem_of_getElem? (i := 609) (by decide +kernel), List.mem_of_getElem? (i := 700) (by decide +kernel), List.mem_of_getElem? (i := 701) (by decide +kernel)⟩
theorem lw_p24 : lw_okq (⟨"SquaredRowsModel", "note", "([I)V"⟩, 25) := ⟨⟨by decide +kernel, by decide +kernel⟩, List.mem_of_getElem? (i := 609) (by decide +kernel), List.mem_of_getElem? (i := 705) (by decide +kernel), List.mem_of_getElem? (i := 706) (by decide +kernel)⟩
theorem lw_p25 : lw_okq (⟨"SquaredRowsModel", "bring", "([II[II)V"⟩, 25) := ⟨⟨by decide +kernel, by decide +kernel⟩, List.mem_of_getElem? (i := 609) (by decide +kernel), List.mem_of_getElem? (i := 709) (by decide +kernel), List.mem_of_getElem? (i := 710) (by decide +kernel)⟩
theorem lw_p26 : lw_okq (⟨"SquaredRowsModel", "full", "()I"⟩, 25) := ⟨⟨by decide +kernel, by decide +kernel⟩, List.mem_of_getElem? (i := 609) (by decide +kernel), List.mem_of_getElem? (i := 717) (by decide +kernel), List.mem_of_getElem? (i := 718) (by decide +kernel)⟩
theorem lw_p27 : lw_okq (⟨"SquaredRowsModel", "put", "(I)V"⟩, 25) := ⟨⟨by decide +kernel, by decide +kernel⟩, List.mem_of_getElem? (i := 609) (by decide +kernel), List.mem_of_getElem? (i := 722) (by decide +kernel), List.mem_of_getElem? (i := 723) (by decide +kernel)⟩
theorem lw_p28 : lw_okq (⟨"SquaredRowsModel", "no", "()I"⟩, 25) := ⟨⟨by decide +kernel, by decide +kernel⟩, List.mem_of_getElem? (i := 609) (by decide +kernel), List.mem_of_getElem? (i := 730) (by decide +kernel), List.mem_of_getElem? (i := 731) (by decide +kernel)⟩
theorem lw_p29 : lw_okq (⟨"SquaredRowsModel", "cut", "()V"⟩, 25) := ⟨⟨by decide +kernel, by decide +kernel⟩, List.mem_of_getElem? (i := 609) (by decide +kernel), List.mem_of_getElem? (i := 735) (by decide +kernel), List.mem_of_getElem? (i := 736) (by decide +kernel)⟩
theorem lw_p30 : lw_okq (⟨"SquaredRowsModel", "addPlace", "(II)Z"⟩, 25) := ⟨⟨by decide +kernel, by decide +kernel⟩, List.mem_of_getElem? (i := 609) (by decide +kernel), List.mem_of_getElem? (i := 753) (by decide +kernel), List.mem_of_getElem? (i := 754) (by decide +kernel)⟩
theorem lw_p31 : lw_okq (⟨"SquaredRowsModel", "takeMade", "(I)Z"⟩, 25) := ⟨⟨by decide +kernel, by decide +kernel⟩, List.mem_of_getElem? (i := 609) (by decide +kernel), List.mem_of_getElem? (i := 760) (by decide +kernel), List.mem_of_getElem? (i := 761) (by decide +kernel)⟩
def lw_privs_2 : List (MethodName × Nat) := [(⟨"SquaredRows$Reader", "given", "()I"⟩, 9), (⟨"SquaredRows$Reader", "closeNumber", "()V"⟩, 9), (⟨"SquaredRows$Reader", "openOrder", "(I)Z"⟩, 9), (⟨"SquaredRows$Reader", "closeOrder", "()Z"⟩, 9), (⟨"SquaredRows$Reader", "performOne", "(LSquaredRows$Row;I)I"⟩, 9), (⟨"SquaredRows", "tally", "(I)I"⟩, 12), (⟨"SquaredRows", "digestPolynomial", "(JI)J"⟩, 12), (⟨"SquaredRowsModel", "bad", "()I"⟩, 25), (⟨"SquaredRowsModel", "note", "([I)V"⟩, 25), (⟨"SquaredRowsModel", "bring", "([II[II)V"⟩, 25), (⟨"SquaredRowsModel", "full", "()I"⟩, 25), (⟨"SquaredRowsModel", "put", "(I)V"⟩, 25), (⟨"SquaredRowsModel", "no", "()I"⟩, 25), (⟨"SquaredRowsModel", "cut", "()V"⟩, 25), (⟨"SquaredRowsModel", "addPlace", "(II)Z"⟩, 25), (⟨"SquaredRowsModel", "takeMade", "(I)Z"⟩, 25)]
theorem lw_r2 : ∀ q ∈ lw_privs_2, lw_okq q := List.forall_mem_cons.mpr ⟨lw_p16, List.forall_mem_cons.mpr ⟨lw_p17, List.forall_mem_cons.mpr ⟨lw_p18, List.forall_mem_cons.mpr ⟨lw_p19, List.forall_mem_cons.mpr ⟨lw_p20, List.forall_mem_cons.mpr ⟨lw_p21, List.forall_mem_cons.mpr ⟨lw_p22, List.forall_mem_cons.mpr ⟨lw_p23, List.forall_mem_cons.mpr ⟨lw_p24, List.forall_mem_cons.mpr ⟨lw_p25, List.forall_mem_cons.mpr ⟨lw_p26, List.forall_mem_cons.mpr ⟨lw_p27, List.forall_mem_cons.mpr ⟨lw_p28, List.forall_mem_cons.mpr ⟨lw_p29, List.forall_mem_cons.mpr ⟨lw_p30, List.forall_mem_cons.mpr ⟨lw_p31, fun _ h => absurd h List.not_mem_nil⟩⟩⟩⟩⟩⟩⟩⟩⟩⟩⟩⟩⟩⟩⟩⟩
theorem lw_p32 : lw_okq (⟨"SquaredRowsModel", "move", "(I)Z"⟩, 25) := ⟨⟨by decide +kernel, by decide +kernel⟩, List.mem_of_getElem? (i := 609) (by decide +kernel), List.mem_of_getElem? (i := 768) (by decide +kernel), List.mem_of_getElem? (i := 769) (by decide +kernel)⟩
theorem lw_p33 : lw_okq (⟨"SquaredRowsModel", "last", "()I"⟩, 25) := ⟨⟨by decide +kernel, by decide +kernel⟩, List.mem_of_getElem? (i := 609) (by decide +kernel), List.mem_of_getElem? (i := 775) (by decide +kernel), List.mem_of_getElem? (i := 776) (by decide +kernel)⟩
theorem lw_p34 : lw_okq (⟨"SquaredRowsModel", "stretch", "(I)Z"⟩, 25) := ⟨⟨by decide +kernel, by decide +kernel⟩, List.mem_of_getElem? (i := 609) (by decide +kernel), List.mem_of_getElem? (i := 783) (by decide +kernel), List.mem_of_getElem? (i := 784) (by decide +kernel)⟩
theorem lw_p35 : lw_okq (⟨"SquaredRowsModel", "weigh", "(I)Z"⟩, 25) := ⟨⟨by decide +kernel, by decide +kernel⟩, List.mem_of_getElem? (i := 609) (by decide +kernel), List.mem_of_getElem? (i := 791) (by decide +kernel), List.mem_of_getElem? (i := 792) (by decide +kernel)⟩
theorem lw_p36 : lw_okq (⟨"SquaredRowsModel", "isThere", "(II)Z"⟩, 25) := ⟨⟨by decide +kernel, by decide +kernel⟩, List.mem_of_getElem? (i := 609) (by decide +kernel), List.mem_of_getElem? (i := 809) (by decide +kernel), List.mem_of_getElem? (i := 810) (by decide +kernel)⟩
theorem lw_p37 : lw_okq (⟨"SquaredRowsModel", "detOf", "(II)J"⟩, 25) := ⟨⟨by decide +kernel, by decide +kernel⟩, List.mem_of_getElem? (i := 609) (by decide +kernel), List.mem_of_getElem? (i := 813) (by decide +kernel), List.mem_of_getElem? (i := 814) (by decide +kernel)⟩
theorem lw_p38 : lw_okq (⟨"SquaredRowsModel", "clearTable", "(I)J"⟩, 25) := ⟨⟨by decide +kernel, by decide +kernel⟩, List.mem_of_getElem? (i := 609) (by decide +kernel), List.mem_of_getElem? (i := 817) (by decide +kernel), List.mem_of_getElem? (i := 818) (by decide +kernel)⟩
theorem lw_p39 : lw_okq (⟨"SquaredRowsModel", "isPoly", "(I)Z"⟩, 25) := ⟨⟨by decide +kernel, by decide +kernel⟩, List.mem_of_getElem? (i := 609) (by decide +kernel), List.mem_of_getElem? (i := 829) (by decide +kernel), List.mem_of_getElem? (i := 830) (by decide +kernel)⟩
theorem lw_p40 : lw_okq (⟨"SquaredRowsModel", "makePoly", "(I)V"⟩, 25) := ⟨⟨by decide +kernel, by decide +kernel⟩, List.mem_of_getElem? (i := 609) (by decide +kernel), List.mem_of_getElem? (i := 833) (by decide +kernel), List.mem_of_getElem? (i := 834) (by decide +kernel)⟩
theorem lw_p41 : lw_okq (⟨"SquaredRowsModel", "isNorm", "(I)Z"⟩, 25) := ⟨⟨by decide +kernel, by decide +kernel⟩, List.mem_of_getElem? (i := 609) (by decide +kernel), List.mem_of_getElem? (i := 847) (by decide +kernel), List.mem_of_getElem? (i := 848) (by decide +kernel)⟩
theorem lw_p42 : lw_okq (⟨"SquaredRowsModel", "judge", "()V"⟩, 25) := ⟨⟨by decide +kernel, by decide +kernel⟩, List.mem_of_getElem? (i := 609) (by decide +kernel), List.mem_of_getElem? (i := 860) (by decide +kernel), List.mem_of_getElem? (i := 861) (by decide +kernel)⟩
theorem lw_p43 : lw_okq (⟨"SquaredRowsModel", "meanWith", "(II)J"⟩, 25) := ⟨⟨by decide +kernel, by decide +kernel⟩, List.mem_of_getElem? (i := 609) (by decide +kernel), List.mem_of_getElem? (i := 865) (by decide +kernel), List.mem_of_getElem? (i := 866) (by decide +kernel)⟩
theorem lw_p44 : lw_okq (⟨"SquaredRowsModel", "polyAt", "(III)J"⟩, 25) := ⟨⟨by decide +kernel, by decide +kernel⟩, List.mem_of_getElem? (i := 609) (by decide +kernel), List.mem_of_getElem? (i := 876) (by decide +kernel), List.mem_of_getElem? (i := 877) (by decide +kernel)⟩
theorem lw_p45 : lw_okq (⟨"SquaredRowsModel", "isPositive", "(I)Z"⟩, 25) := ⟨⟨by decide +kernel, by decide +kernel⟩, List.mem_of_getElem? (i := 609) (by decide +kernel), List.mem_of_getElem? (i := 884) (by decide +kernel), List.mem_of_getElem? (i := 885) (by decide +kernel)⟩
theorem lw_p46 : lw_okq (⟨"SquaredRowsModel", "belowSpot", "(III)I"⟩, 25) := ⟨⟨by decide +kernel, by decide +kernel⟩, List.mem_of_getElem? (i := 609) (by decide +kernel), List.mem_of_getElem? (i := 888) (by decide +kernel), List.mem_of_getElem? (i := 889) (by decide +kernel)⟩
theorem lw_p47 : lw_okq (⟨"SquaredRowsModel", "makeProduct", "(II)V"⟩, 25) := ⟨⟨by decide +kernel, by decide +kernel⟩, List.mem_of_getElem? (i := 609) (by decide +kernel), List.mem_of_getElem? (i := 907) (by decide +kernel), List.mem_of_getElem? (i := 908) (by decide +kernel)⟩
def lw_privs_3 : List (MethodName × Nat) := [(⟨"SquaredRowsModel", "move", "(I)Z"⟩, 25), (⟨"SquaredRowsModel", "last", "()I"⟩, 25), (⟨"SquaredRowsModel", "stretch", "(I)Z"⟩, 25), (⟨"SquaredRowsModel", "weigh", "(I)Z"⟩, 25), (⟨"SquaredRowsModel", "isThere", "(II)Z"⟩, 25), (⟨"SquaredRowsModel", "detOf", "(II)J"⟩, 25), (⟨"SquaredRowsModel", "clearTable", "(I)J"⟩, 25), (⟨"SquaredRowsModel", "isPoly", "(I)Z"⟩, 25), (⟨"SquaredRowsModel", "makePoly", "(I)V"⟩, 25), (⟨"SquaredRowsModel", "isNorm", "(I)Z"⟩, 25), (⟨"SquaredRowsModel", "judge", "()V"⟩, 25), (⟨"SquaredRowsModel", "meanWith", "(II)J"⟩, 25), (⟨"SquaredRowsModel", "polyAt", "(III)J"⟩, 25), (⟨"SquaredRowsModel", "isPositive", "(I)Z"⟩, 25), (⟨"SquaredRowsModel", "belowSpot", "(III)I"⟩, 25), (⟨"SquaredRowsModel", "makeProduct", "(II)V"⟩, 25)]
theorem lw_r3 : ∀ q ∈ lw_privs_3, lw_okq q := List.forall_mem_cons.mpr ⟨lw_p32, List.forall_mem_cons.mpr ⟨lw_p33, List.forall_mem_cons.mpr ⟨lw_p34, List.forall_mem_cons.mpr ⟨lw_p35, List.forall_mem_cons.mpr ⟨lw_p36, List.forall_mem_cons.mpr ⟨lw_p37, List.forall_mem_cons.mpr ⟨lw_p38, List.forall_mem_cons.mpr ⟨lw_p39, List.forall_mem_cons.mpr ⟨lw_p40, List.forall_mem_cons.mpr ⟨lw_p41, List.forall_mem_cons.mpr ⟨lw_p42, List.forall_mem_cons.mpr ⟨lw_p43, List.forall_mem_cons.mpr ⟨lw_p44, List.forall_mem_cons.mpr ⟨lw_p45, List.forall_mem_cons.mpr ⟨lw_p46, List.forall_mem_cons.mpr ⟨lw_p47, fun _ h => absurd h List.not_mem_nil⟩⟩⟩⟩⟩⟩⟩⟩⟩⟩⟩⟩⟩⟩⟩⟩
theorem lw_p48 : lw_okq (⟨"SquaredRowsModel", "readText", "()I"⟩, 25) := ⟨⟨by decide +kernel, by decide +kernel⟩, List.mem_of_getElem? (i := 609) (by decide +kernel), List.mem_of_getElem? (i := 938) (by decide +kernel), List.mem_of_getElem? (i := 939) (by decide +kernel)⟩
theorem lw_p49 : lw_okq (⟨"SquaredRowsModel", "readByte", "(I)Z"⟩, 25) := ⟨⟨by decide +kernel, by decide +kernel⟩, List.mem_of_getElem? (i := 609) (by decide +kernel), List.mem_of_getElem? (i := 942) (by decide +kernel), List.mem_of_getElem? (i := 943) (by decide +kernel)⟩
theorem lw_p50 : lw_okq (⟨"SquaredRowsModel", "beginNumber", "(Z)Z"⟩, 25) := ⟨⟨by decide +kernel, by decide +kernel⟩, List.mem_of_getElem? (i := 609) (by decide +kernel), List.mem_of_getElem? (i := 951) (by decide +kernel), List.mem_of_getElem? (i := 952) (by decide +kernel)⟩
theorem lw_p51 : lw_okq (⟨"SquaredRowsModel", "doOrder", "(I)Z"⟩, 25) := ⟨⟨by decide +kernel, by decide +kernel⟩, List.mem_of_getElem? (i := 609) (by decide +kernel), List.mem_of_getElem? (i := 961) (by decide +kernel), List.mem_of_getElem? (i := 962) (by decide +kernel)⟩
theorem lw_p52 : lw_okq (⟨"SquaredRowsModel", "becomeRow", "(II)Z"⟩, 25) := ⟨⟨by decide +kernel, by decide +kernel⟩, List.mem_of_getElem? (i := 609) (by decide +kernel), List.mem_of_getElem? (i := 965) (by decide +kernel), List.mem_of_getElem? (i := 966) (by decide +kernel)⟩
theorem lw_p53 : lw_okq (⟨"SquaredRowsModel", "toldOf", "(I)I"⟩, 25) := ⟨⟨by decide +kernel, by decide +kernel⟩, List.mem_of_getElem? (i := 609) (by decide +kernel), List.mem_of_getElem? (i := 974) (by decide +kernel), List.mem_of_getElem? (i := 975) (by decide +kernel)⟩
def lw_privs_4 : List (MethodName × Nat) := [(⟨"SquaredRowsModel", "readText", "()I"⟩, 25), (⟨"SquaredRowsModel", "readByte", "(I)Z"⟩, 25), (⟨"SquaredRowsModel", "beginNumber", "(Z)Z"⟩, 25), (⟨"SquaredRowsModel", "doOrder", "(I)Z"⟩, 25), (⟨"SquaredRowsModel", "becomeRow", "(II)Z"⟩, 25), (⟨"SquaredRowsModel", "toldOf", "(I)I"⟩, 25)]
theorem lw_r4 : ∀ q ∈ lw_privs_4, lw_okq q := List.forall_mem_cons.mpr ⟨lw_p48, List.forall_mem_cons.mpr ⟨lw_p49, List.forall_mem_cons.mpr ⟨lw_p50, List.forall_mem_cons.mpr ⟨lw_p51, List.forall_mem_cons.mpr ⟨lw_p52, List.forall_mem_cons.mpr ⟨lw_p53, fun _ h => absurd h List.not_mem_nil⟩⟩⟩⟩⟩⟩
def lw_privs : List (MethodName × Nat) := lw_privs_1 ++ (lw_privs_2 ++ (lw_privs_3 ++ (lw_privs_4)))
def lw_tbl : List Cond := k2_sels lw_privs ++ tables_1
theorem lw_privs_ok : ∀ q ∈ lw_privs, lw_okq q := by
  show ∀ q ∈ lw_privs_1 ++ (lw_privs_2 ++ (lw_privs_3 ++ (lw_privs_4))), lw_okq q
  exact List.forall_mem_append.mpr ⟨lw_r1, List.forall_mem_append.mpr ⟨lw_r2, List.forall_mem_append.mpr ⟨lw_r3, lw_r4⟩⟩⟩
end
section
def RX0 : String := "SquaredRows$Minors"
def TX0 : u_T := fun k => match k with
  | 0 => ("SquaredRows$Minors", "minors", "[J", true)
  | _ => ("SquaredRows$Minors", "count", "I", false)
def tyX0 : Nat → FieldType := fun k => match k with
  | 0 => .array .long
  | _ => .int
abbrev wsX00 : List Cond := u_ws RX0 TX0 2
theorem nmX0 : ∀ a, a < 2 → ∀ b, b < 2 → a ≠ b → (TX0 a).2.1 ≠ (TX0 b).2.1 := by decide +kernel
theorem tyX0_ok : ∀ k, k < 2 → parseFieldDescriptor (TX0 k).2.2.1 = some (tyX0 k) := by decide +kernel
abbrev cX0_init : ByteArray := prog_2_method_1_code
def yX0_init : MethodName := ⟨RX0, "<init>", "()V"⟩
abbrev cX0_fill : ByteArray := prog_2_method_2_code
def yX0_fill : MethodName := ⟨RX0, "fill", "(LSquaredRows$Row;I)V"⟩
abbrev cX0_expand : ByteArray := prog_2_method_3_code
def yX0_expand : MethodName := ⟨RX0, "expand", "(LSquaredRows$Row;II)J"⟩
abbrev cX0_minor : ByteArray := prog_2_method_4_code
def yX0_minor : MethodName := ⟨RX0, "minor", "(I)J"⟩
abbrev cX0_det : ByteArray := prog_2_method_5_code
def yX0_det : MethodName := ⟨RX0, "det", "(I)J"⟩
abbrev cX0_hasPolynomial : ByteArray := prog_2_method_6_code
def yX0_hasPolynomial : MethodName := ⟨RX0, "hasPolynomial", "(I)Z"⟩
abbrev cX0_coefficient : ByteArray := prog_2_method_7_code
def yX0_coefficient : MethodName := ⟨RX0, "coefficient", "(II)J"⟩
abbrev cX0_evaluate : ByteArray := prog_2_method_8_code
def yX0_evaluate : MethodName := ⟨RX0, "evaluate", "(III)J"⟩
abbrev cX0_meanTimesPower : ByteArray := prog_2_method_9_code
def yX0_meanTimesPower : MethodName := ⟨RX0, "meanTimesPower", "(LSquaredRows$Row;II)J"⟩
abbrev cX0_quotientMean : ByteArray := prog_2_method_10_code
def yX0_quotientMean : MethodName := ⟨RX0, "quotientMean", "(LSquaredRows$Row;III)J"⟩
abbrev cX0_zerosBelow : ByteArray := prog_2_method_11_code
def yX0_zerosBelow : MethodName := ⟨RX0, "zerosBelow", "(III)I"⟩
def RX1 : String := "SquaredRows$Product"
def TX1 : u_T := fun k => match k with
  | 0 => ("SquaredRows$Product", "numbers", "[J", true)
  | _ => ("SquaredRows$Product", "degree", "I", false)
def tyX1 : Nat → FieldType := fun k => match k with
  | 0 => .array .long
  | _ => .int
abbrev wsX10 : List Cond := u_ws RX1 TX1 2
theorem nmX1 : ∀ a, a < 2 → ∀ b, b < 2 → a ≠ b → (TX1 a).2.1 ≠ (TX1 b).2.1 := by decide +kernel
theorem tyX1_ok : ∀ k, k < 2 → parseFieldDescriptor (TX1 k).2.2.1 = some (tyX1 k) := by decide +kernel
abbrev cX1_init : ByteArray := prog_3_method_1_code
def yX1_init : MethodName := ⟨RX1, "<init>", "()V"⟩
abbrev cX1_degree : ByteArray := prog_3_method_2_code
def yX1_degree : MethodName := ⟨RX1, "degree", "()I"⟩
abbrev cX1_number : ByteArray := prog_3_method_3_code
def yX1_number : MethodName := ⟨RX1, "number", "(I)J"⟩
abbrev cX1_begin : ByteArray := prog_3_method_4_code
def yX1_begin : MethodName := ⟨RX1, "begin", "()V"⟩
abbrev cX1_times : ByteArray := prog_3_method_5_code
def yX1_times : MethodName := ⟨RX1, "times", "(I)V"⟩
abbrev cX1_vanishAt : ByteArray := prog_3_method_6_code
def yX1_vanishAt : MethodName := ⟨RX1, "vanishAt", "(I)V"⟩
abbrev cX1_evaluate : ByteArray := prog_3_method_7_code
def yX1_evaluate : MethodName := ⟨RX1, "evaluate", "(I)J"⟩
def RX2 : String := "SquaredRows$Reader"
def TX2 : u_T := fun k => match k with
  | 0 => ("SquaredRows$Reader", "kinds", "[I", true)
  | 1 => ("SquaredRows$Reader", "starts", "[I", true)
  | 2 => ("SquaredRows$Reader", "numbers", "[I", true)
  | 3 => ("SquaredRows$Reader", "orders", "I", false)
  | 4 => ("SquaredRows$Reader", "taken", "I", false)
  | 5 => ("SquaredRows$Reader", "kind", "I", false)
  | 6 => ("SquaredRows$Reader", "minus", "Z", false)
  | 7 => ("SquaredRows$Reader", "figures", "I", false)
  | _ => ("SquaredRows$Reader", "size", "I", false)
def tyX2 : Nat → FieldType := fun k => match k with
  | 0 => .array .int
  | 1 => .array .int
  | 2 => .array .int
  | 3 => .int
  | 4 => .int
  | 5 => .int
  | 6 => .boolean
  | 7 => .int
  | _ => .int
abbrev wsX20 : List Cond := u_ws RX2 TX2 9
theorem nmX2 : ∀ a, a < 9 → ∀ b, b < 9 → a ≠ b → (TX2 a).2.1 ≠ (TX2 b).2.1 := by decide +kernel
theorem tyX2_ok : ∀ k, k < 9 → parseFieldDescriptor (TX2 k).2.2.1 = some (tyX2 k) := by decide +kernel
abbrev cX2_init : ByteArray := prog_4_method_1_code
def yX2_init : MethodName := ⟨RX2, "<init>", "()V"⟩
abbrev cX2_orders : ByteArray := prog_4_method_2_code
def yX2_orders : MethodName := ⟨RX2, "orders", "()I"⟩
abbrev cX2_number : ByteArray := prog_4_method_3_code
def yX2_number : MethodName := ⟨RX2, "number", "(I)I"⟩
abbrev cX2_scan : ByteArray := prog_4_method_4_code
def yX2_scan : MethodName := ⟨RX2, "scan", "(LSquaredRows$Text;)I"⟩
abbrev cX2_accept : ByteArray := prog_4_method_5_code
def yX2_accept : MethodName := ⟨RX2, "accept", "(I)Z"⟩
abbrev cX2_acceptFigure : ByteArray := prog_4_method_6_code
def yX2_acceptFigure : MethodName := ⟨RX2, "acceptFigure", "(I)Z"⟩
abbrev cX2_openOrder : ByteArray := prog_4_method_7_code
def yX2_openOrder : MethodName := ⟨RX2, "openOrder", "(I)Z"⟩
abbrev cX2_closeOrder : ByteArray := prog_4_method_8_code
def yX2_closeOrder : MethodName := ⟨RX2, "closeOrder", "()Z"⟩
abbrev cX2_closeNumber : ByteArray := prog_4_method_9_code
def yX2_closeNumber : MethodName := ⟨RX2, "closeNumber", "()V"⟩
abbrev cX2_forgetNumber : ByteArray := prog_4_method_10_code
def yX2_forgetNumber : MethodName := ⟨RX2, "forgetNumber", "()V"⟩
abbrev cX2_given : ByteArray := prog_4_method_11_code
def yX2_given : MethodName := ⟨RX2, "given", "()I"⟩
abbrev cX2_mostNumbers : ByteArray := prog_4_method_12_code
def yX2_mostNumbers : MethodName := ⟨RX2, "mostNumbers", "(I)I"⟩
abbrev cX2_leastNumbers : ByteArray := prog_4_method_13_code
def yX2_leastNumbers : MethodName := ⟨RX2, "leastNumbers", "(I)I"⟩
abbrev cX2_perform : ByteArray := prog_4_method_14_code
def yX2_perform : MethodName := ⟨RX2, "perform", "(LSquaredRows$Row;)I"⟩
abbrev cX2_performOne : ByteArray := prog_4_method_15_code
def yX2_performOne : MethodName := ⟨RX2, "performOne", "(LSquaredRows$Row;I)I"⟩
def RX3 : String := "SquaredRows$Row"
def TX3 : u_T := fun k => match k with
  | 0 => ("SquaredRows$Row", "moments", "[I", true)
  | 1 => ("SquaredRows$Row", "next", "[J", true)
  | 2 => ("SquaredRows$Row", "power", "LSquaredRows$Product;", true)
  | _ => ("SquaredRows$Row", "count", "I", false)
def tyX3 : Nat → FieldType := fun k => match k with
  | 0 => .array .int
  | 1 => .array .long
  | 2 => .object "SquaredRows$Product"
  | _ => .int
abbrev wsX30 : List Cond := u_ws RX3 TX3 4
theorem nmX3 : ∀ a, a < 4 → ∀ b, b < 4 → a ≠ b → (TX3 a).2.1 ≠ (TX3 b).2.1 := by decide +kernel
theorem tyX3_ok : ∀ k, k < 4 → parseFieldDescriptor (TX3 k).2.2.1 = some (tyX3 k) := by decide +kernel
abbrev cX3_init : ByteArray := prog_5_method_1_code
def yX3_init : MethodName := ⟨RX3, "<init>", "()V"⟩
abbrev cX3_size : ByteArray := prog_5_method_2_code
def yX3_size : MethodName := ⟨RX3, "size", "()I"⟩
abbrev cX3_at : ByteArray := prog_5_method_3_code
def yX3_at : MethodName := ⟨RX3, "at", "(I)I"⟩
abbrev cX3_hasTable : ByteArray := prog_5_method_4_code
def yX3_hasTable : MethodName := ⟨RX3, "hasTable", "(II)Z"⟩
abbrev cX3_mean : ByteArray := prog_5_method_5_code
def yX3_mean : MethodName := ⟨RX3, "mean", "(LSquaredRows$Product;I)J"⟩
abbrev cX3_copy : ByteArray := prog_5_method_6_code
def yX3_copy : MethodName := ⟨RX3, "copy", "(LSquaredRows$Row;)V"⟩
abbrev cX3_put : ByteArray := prog_5_method_7_code
def yX3_put : MethodName := ⟨RX3, "put", "(II)I"⟩
abbrev cX3_append : ByteArray := prog_5_method_8_code
def yX3_append : MethodName := ⟨RX3, "append", "(I)I"⟩
abbrev cX3_drop : ByteArray := prog_5_method_9_code
def yX3_drop : MethodName := ⟨RX3, "drop", "()I"⟩
abbrev cX3_addPlace : ByteArray := prog_5_method_10_code
def yX3_addPlace : MethodName := ⟨RX3, "addPlace", "(II)I"⟩
abbrev cX3_shift : ByteArray := prog_5_method_11_code
def yX3_shift : MethodName := ⟨RX3, "shift", "(I)I"⟩
abbrev cX3_scale : ByteArray := prog_5_method_12_code
def yX3_scale : MethodName := ⟨RX3, "scale", "(I)I"⟩
abbrev cX3_reweigh : ByteArray := prog_5_method_13_code
def yX3_reweigh : MethodName := ⟨RX3, "reweigh", "(I)I"⟩
abbrev cX3_replace : ByteArray := prog_5_method_14_code
def yX3_replace : MethodName := ⟨RX3, "replace", "(LSquaredRows$Reader;II)I"⟩
abbrev cX3_takeNext : ByteArray := prog_5_method_15_code
def yX3_takeNext : MethodName := ⟨RX3, "takeNext", "(I)I"⟩
abbrev cX3_save : ByteArray := prog_5_method_16_code
def yX3_save : MethodName := ⟨RX3, "save", "([II)V"⟩
abbrev cX3_load : ByteArray := prog_5_method_17_code
def yX3_load : MethodName := ⟨RX3, "load", "([II)V"⟩
abbrev cX3_isNoMoment : ByteArray := prog_5_method_18_code
def yX3_isNoMoment : MethodName := ⟨RX3, "isNoMoment", "(I)Z"⟩
abbrev cX3_isNoShift : ByteArray := prog_5_method_19_code
def yX3_isNoShift : MethodName := ⟨RX3, "isNoShift", "(I)Z"⟩
def RX4 : String := "SquaredRows$States"
def TX4 : u_T := fun k => match k with
  | 0 => ("SquaredRows$States", "saved", "[I", true)
  | 1 => ("SquaredRows$States", "oldest", "I", false)
  | _ => ("SquaredRows$States", "depth", "I", false)
def tyX4 : Nat → FieldType := fun k => match k with
  | 0 => .array .int
  | 1 => .int
  | _ => .int
abbrev wsX40 : List Cond := u_ws RX4 TX4 3
theorem nmX4 : ∀ a, a < 3 → ∀ b, b < 3 → a ≠ b → (TX4 a).2.1 ≠ (TX4 b).2.1 := by decide +kernel
theorem tyX4_ok : ∀ k, k < 3 → parseFieldDescriptor (TX4 k).2.2.1 = some (tyX4 k) := by decide +kernel
abbrev cX4_init : ByteArray := prog_6_method_1_code
def yX4_init : MethodName := ⟨RX4, "<init>", "()V"⟩
abbrev cX4_depth : ByteArray := prog_6_method_2_code
def yX4_depth : MethodName := ⟨RX4, "depth", "()I"⟩
abbrev cX4_push : ByteArray := prog_6_method_3_code
def yX4_push : MethodName := ⟨RX4, "push", "(LSquaredRows$Row;)V"⟩
abbrev cX4_pop : ByteArray := prog_6_method_4_code
def yX4_pop : MethodName := ⟨RX4, "pop", "(LSquaredRows$Row;)V"⟩
abbrev cX4_place : ByteArray := prog_6_method_5_code
def yX4_place : MethodName := ⟨RX4, "place", "(I)I"⟩
def RX5 : String := "SquaredRows$Text"
def TX5 : u_T := fun k => match k with
  | 0 => ("SquaredRows$Text", "bytes", "[B", true)
  | _ => ("SquaredRows$Text", "length", "I", false)
def tyX5 : Nat → FieldType := fun k => match k with
  | 0 => .array .byte
  | _ => .int
abbrev wsX50 : List Cond := u_ws RX5 TX5 2
theorem nmX5 : ∀ a, a < 2 → ∀ b, b < 2 → a ≠ b → (TX5 a).2.1 ≠ (TX5 b).2.1 := by decide +kernel
theorem tyX5_ok : ∀ k, k < 2 → parseFieldDescriptor (TX5 k).2.2.1 = some (tyX5 k) := by decide +kernel
abbrev cX5_init : ByteArray := prog_7_method_1_code
def yX5_init : MethodName := ⟨RX5, "<init>", "()V"⟩
abbrev cX5_length : ByteArray := prog_7_method_2_code
def yX5_length : MethodName := ⟨RX5, "length", "()I"⟩
abbrev cX5_at : ByteArray := prog_7_method_3_code
def yX5_at : MethodName := ⟨RX5, "at", "(I)I"⟩
abbrev cX5_append : ByteArray := prog_7_method_4_code
def yX5_append : MethodName := ⟨RX5, "append", "(I)Z"⟩
abbrev cX5_empty : ByteArray := prog_7_method_5_code
def yX5_empty : MethodName := ⟨RX5, "empty", "()V"⟩
def RX6 : String := "SquaredRows"
def TX6 : u_T := fun k => match k with
  | 0 => ("SquaredRows", "row", "LSquaredRows$Row;", true)
  | 1 => ("SquaredRows", "trial", "LSquaredRows$Row;", true)
  | 2 => ("SquaredRows", "minors", "LSquaredRows$Minors;", true)
  | 3 => ("SquaredRows", "shiftedMinors", "LSquaredRows$Minors;", true)
  | 4 => ("SquaredRows", "product", "LSquaredRows$Product;", true)
  | 5 => ("SquaredRows", "states", "LSquaredRows$States;", true)
  | 6 => ("SquaredRows", "text", "LSquaredRows$Text;", true)
  | 7 => ("SquaredRows", "reader", "LSquaredRows$Reader;", true)
  | 8 => ("SquaredRows", "findings", "[I", true)
  | 9 => ("SquaredRows", "timesBad", "I", false)
  | 10 => ("SquaredRows", "timesNo", "I", false)
  | _ => ("SquaredRows", "timesFull", "I", false)
def tyX6 : Nat → FieldType := fun k => match k with
  | 0 => .object "SquaredRows$Row"
  | 1 => .object "SquaredRows$Row"
  | 2 => .object "SquaredRows$Minors"
  | 3 => .object "SquaredRows$Minors"
  | 4 => .object "SquaredRows$Product"
  | 5 => .object "SquaredRows$States"
  | 6 => .object "SquaredRows$Text"
  | 7 => .object "SquaredRows$Reader"
  | 8 => .array .int
  | 9 => .int
  | 10 => .int
  | _ => .int
abbrev wsX60 : List Cond := u_ws RX6 TX6 12
theorem nmX6 : ∀ a, a < 12 → ∀ b, b < 12 → a ≠ b → (TX6 a).2.1 ≠ (TX6 b).2.1 := by decide +kernel
theorem tyX6_ok : ∀ k, k < 12 → parseFieldDescriptor (TX6 k).2.2.1 = some (tyX6 k) := by decide +kernel
abbrev cX6_init : ByteArray := prog_1_method_1_code
def yX6_init : MethodName := ⟨RX6, "<init>", "()V"⟩
abbrev cX6_moment : ByteArray := prog_1_method_2_code
def yX6_moment : MethodName := ⟨RX6, "moment", "(II)I"⟩
abbrev cX6_more : ByteArray := prog_1_method_3_code
def yX6_more : MethodName := ⟨RX6, "more", "(I)I"⟩
abbrev cX6_less : ByteArray := prog_1_method_4_code
def yX6_less : MethodName := ⟨RX6, "less", "()I"⟩
abbrev cX6_adds : ByteArray := prog_1_method_5_code
def yX6_adds : MethodName := ⟨RX6, "adds", "(II)I"⟩
abbrev cX6_moves : ByteArray := prog_1_method_6_code
def yX6_moves : MethodName := ⟨RX6, "moves", "(I)I"⟩
abbrev cX6_stretches : ByteArray := prog_1_method_7_code
def yX6_stretches : MethodName := ⟨RX6, "stretches", "(I)I"⟩
abbrev cX6_weighs : ByteArray := prog_1_method_8_code
def yX6_weighs : MethodName := ⟨RX6, "weighs", "(I)I"⟩
abbrev cX6_of : ByteArray := prog_1_method_9_code
def yX6_of : MethodName := ⟨RX6, "of", "(I)I"⟩
abbrev cX6_determinant : ByteArray := prog_1_method_10_code
def yX6_determinant : MethodName := ⟨RX6, "determinant", "(II)J"⟩
abbrev cX6_polynomial : ByteArray := prog_1_method_11_code
def yX6_polynomial : MethodName := ⟨RX6, "polynomial", "(III)J"⟩
abbrev cX6_norm : ByteArray := prog_1_method_12_code
def yX6_norm : MethodName := ⟨RX6, "norm", "(II)J"⟩
abbrev cX6_rule : ByteArray := prog_1_method_13_code
def yX6_rule : MethodName := ⟨RX6, "rule", "(III)J"⟩
abbrev cX6_verdict : ByteArray := prog_1_method_14_code
def yX6_verdict : MethodName := ⟨RX6, "verdict", "(I)I"⟩
abbrev cX6_value : ByteArray := prog_1_method_15_code
def yX6_value : MethodName := ⟨RX6, "value", "(IIII)J"⟩
abbrev cX6_under : ByteArray := prog_1_method_16_code
def yX6_under : MethodName := ⟨RX6, "under", "(III)I"⟩
abbrev cX6_zero : ByteArray := prog_1_method_17_code
def yX6_zero : MethodName := ⟨RX6, "zero", "(III)I"⟩
abbrev cX6_weight : ByteArray := prog_1_method_18_code
def yX6_weight : MethodName := ⟨RX6, "weight", "(III)J"⟩
abbrev cX6_exact : ByteArray := prog_1_method_19_code
def yX6_exact : MethodName := ⟨RX6, "exact", "(I)I"⟩
abbrev cX6_fraction : ByteArray := prog_1_method_20_code
def yX6_fraction : MethodName := ⟨RX6, "fraction", "(IIII)J"⟩
abbrev cX6_step : ByteArray := prog_1_method_21_code
def yX6_step : MethodName := ⟨RX6, "step", "(II)J"⟩
abbrev cX6_type : ByteArray := prog_1_method_22_code
def yX6_type : MethodName := ⟨RX6, "type", "(I)I"⟩
abbrev cX6_clear : ByteArray := prog_1_method_23_code
def yX6_clear : MethodName := ⟨RX6, "clear", "()I"⟩
abbrev cX6_reads : ByteArray := prog_1_method_24_code
def yX6_reads : MethodName := ⟨RX6, "reads", "()I"⟩
abbrev cX6_back : ByteArray := prog_1_method_25_code
def yX6_back : MethodName := ⟨RX6, "back", "()I"⟩
abbrev cX6_told : ByteArray := prog_1_method_26_code
def yX6_told : MethodName := ⟨RX6, "told", "(I)I"⟩
abbrev cX6_digest : ByteArray := prog_1_method_27_code
def yX6_digest : MethodName := ⟨RX6, "digest", "()J"⟩
abbrev cX6_refuse : ByteArray := prog_1_method_28_code
def yX6_refuse : MethodName := ⟨RX6, "refuse", "(I)I"⟩
abbrev cX6_keepTrial : ByteArray := prog_1_method_29_code
def yX6_keepTrial : MethodName := ⟨RX6, "keepTrial", "()V"⟩
abbrev cX6_tally : ByteArray := prog_1_method_30_code
def yX6_tally : MethodName := ⟨RX6, "tally", "(I)I"⟩
abbrev cX6_digestPolynomial : ByteArray := prog_1_method_31_code
def yX6_digestPolynomial : MethodName := ⟨RX6, "digestPolynomial", "(JI)J"⟩
abbrev cX6_findPolynomial : ByteArray := prog_1_method_32_code
def yX6_findPolynomial : MethodName := ⟨RX6, "findPolynomial", "(I)Z"⟩
abbrev cX6_findRule : ByteArray := prog_1_method_33_code
def yX6_findRule : MethodName := ⟨RX6, "findRule", "(I)Z"⟩
abbrev cX6_findZeros : ByteArray := prog_1_method_34_code
def yX6_findZeros : MethodName := ⟨RX6, "findZeros", "(I)Z"⟩
abbrev cX6_enclose : ByteArray := prog_1_method_35_code
def yX6_enclose : MethodName := ⟨RX6, "enclose", "(III)I"⟩
abbrev cX6_judge : ByteArray := prog_1_method_36_code
def yX6_judge : MethodName := ⟨RX6, "judge", "()V"⟩
abbrev cX6_find : ByteArray := prog_1_method_37_code
def yX6_find : MethodName := ⟨RX6, "find", "(IIII)V"⟩
abbrev cX6_findRest : ByteArray := prog_1_method_38_code
def yX6_findRest : MethodName := ⟨RX6, "findRest", "(I)I"⟩
abbrev cX6_isOutside : ByteArray := prog_1_method_39_code
def yX6_isOutside : MethodName := ⟨RX6, "isOutside", "(III)Z"⟩
abbrev cX6_isNoPoint : ByteArray := prog_1_method_40_code
def yX6_isNoPoint : MethodName := ⟨RX6, "isNoPoint", "(II)Z"⟩
abbrev cX6_isNoSet : ByteArray := prog_1_method_41_code
def yX6_isNoSet : MethodName := ⟨RX6, "isNoSet", "(I)Z"⟩
abbrev cX6_bitOf : ByteArray := prog_1_method_42_code
def yX6_bitOf : MethodName := ⟨RX6, "bitOf", "(I)I"⟩
abbrev cX6_signOf : ByteArray := prog_1_method_43_code
def yX6_signOf : MethodName := ⟨RX6, "signOf", "(J)I"⟩
abbrev cX6_power : ByteArray := prog_1_method_44_code
def yX6_power : MethodName := ⟨RX6, "power", "(JI)J"⟩
abbrev cX6_part : ByteArray := prog_1_method_45_code
def yX6_part : MethodName := ⟨RX6, "part", "(JJI)J"⟩
abbrev cX6_commonDivisor : ByteArray := prog_1_method_46_code
def yX6_commonDivisor : MethodName := ⟨RX6, "commonDivisor", "(JJ)J"⟩
def RX7 : String := "SquaredRowsModel"
def TX7 : u_T := fun k => match k with
  | 0 => ("SquaredRowsModel", "row", "[I", true)
  | 1 => ("SquaredRowsModel", "aside", "[I", true)
  | 2 => ("SquaredRowsModel", "past", "[I", true)
  | 3 => ("SquaredRowsModel", "states", "I", false)
  | 4 => ("SquaredRowsModel", "refused", "[I", true)
  | 5 => ("SquaredRowsModel", "text", "[I", true)
  | 6 => ("SquaredRowsModel", "bytes", "I", false)
  | 7 => ("SquaredRowsModel", "orderLetter", "[I", true)
  | 8 => ("SquaredRowsModel", "orderFrom", "[I", true)
  | 9 => ("SquaredRowsModel", "numbers", "[I", true)
  | 10 => ("SquaredRowsModel", "orders", "I", false)
  | 11 => ("SquaredRowsModel", "made", "[J", true)
  | 12 => ("SquaredRowsModel", "table", "[J", true)
  | 13 => ("SquaredRowsModel", "poly", "[J", true)
  | 14 => ("SquaredRowsModel", "polyBelow", "J", false)
  | 15 => ("SquaredRowsModel", "verdicts", "[I", true)
  | 16 => ("SquaredRowsModel", "product", "[J", true)
  | 17 => ("SquaredRowsModel", "productMany", "I", false)
  | 18 => ("SquaredRowsModel", "rest", "[J", true)
  | 19 => ("SquaredRowsModel", "letter", "I", false)
  | 20 => ("SquaredRowsModel", "begun", "I", false)
  | 21 => ("SquaredRowsModel", "figures", "I", false)
  | 22 => ("SquaredRowsModel", "isWaiting", "Z", false)
  | 23 => ("SquaredRowsModel", "isBelow", "Z", false)
  | _ => ("SquaredRowsModel", "all", "I", false)
def tyX7 : Nat → FieldType := fun k => match k with
  | 0 => .array .int
  | 1 => .array .int
  | 2 => .array .int
  | 3 => .int
  | 4 => .array .int
  | 5 => .array .int
  | 6 => .int
  | 7 => .array .int
  | 8 => .array .int
  | 9 => .array .int
  | 10 => .int
  | 11 => .array .long
  | 12 => .array .long
  | 13 => .array .long
  | 14 => .long
  | 15 => .array .int
  | 16 => .array .long
  | 17 => .int
  | 18 => .array .long
  | 19 => .int
  | 20 => .int
  | 21 => .int
  | 22 => .boolean
  | 23 => .boolean
  | _ => .int
abbrev wsX70 : List Cond := u_ws RX7 TX7 25
theorem nmX7 : ∀ a, a < 25 → ∀ b, b < 25 → a ≠ b → (TX7 a).2.1 ≠ (TX7 b).2.1 := by decide +kernel
theorem tyX7_ok : ∀ k, k < 25 → parseFieldDescriptor (TX7 k).2.2.1 = some (tyX7 k) := by decide +kernel
abbrev cX7_init : ByteArray := prog_9_method_1_code
def yX7_init : MethodName := ⟨RX7, "<init>", "()V"⟩
abbrev cX7_in : ByteArray := prog_9_method_2_code
def yX7_in : MethodName := ⟨RX7, "in", "(JJJ)Z"⟩
abbrev cX7_bad : ByteArray := prog_9_method_3_code
def yX7_bad : MethodName := ⟨RX7, "bad", "()I"⟩
abbrev cX7_no : ByteArray := prog_9_method_4_code
def yX7_no : MethodName := ⟨RX7, "no", "()I"⟩
abbrev cX7_full : ByteArray := prog_9_method_5_code
def yX7_full : MethodName := ⟨RX7, "full", "()I"⟩
abbrev cX7_bring : ByteArray := prog_9_method_6_code
def yX7_bring : MethodName := ⟨RX7, "bring", "([II[II)V"⟩
abbrev cX7_note : ByteArray := prog_9_method_7_code
def yX7_note : MethodName := ⟨RX7, "note", "([I)V"⟩
abbrev cX7_last : ByteArray := prog_9_method_8_code
def yX7_last : MethodName := ⟨RX7, "last", "()I"⟩
abbrev cX7_moment : ByteArray := prog_9_method_9_code
def yX7_moment : MethodName := ⟨RX7, "moment", "(II)I"⟩
abbrev cX7_put : ByteArray := prog_9_method_10_code
def yX7_put : MethodName := ⟨RX7, "put", "(I)V"⟩
abbrev cX7_cut : ByteArray := prog_9_method_11_code
def yX7_cut : MethodName := ⟨RX7, "cut", "()V"⟩
abbrev cX7_more : ByteArray := prog_9_method_12_code
def yX7_more : MethodName := ⟨RX7, "more", "(I)I"⟩
abbrev cX7_less : ByteArray := prog_9_method_13_code
def yX7_less : MethodName := ⟨RX7, "less", "()I"⟩
abbrev cX7_power : ByteArray := prog_9_method_14_code
def yX7_power : MethodName := ⟨RX7, "power", "(JI)J"⟩
abbrev cX7_choose : ByteArray := prog_9_method_15_code
def yX7_choose : MethodName := ⟨RX7, "choose", "(II)J"⟩
abbrev cX7_takeMade : ByteArray := prog_9_method_16_code
def yX7_takeMade : MethodName := ⟨RX7, "takeMade", "(I)Z"⟩
abbrev cX7_addPlace : ByteArray := prog_9_method_17_code
def yX7_addPlace : MethodName := ⟨RX7, "addPlace", "(II)Z"⟩
abbrev cX7_move : ByteArray := prog_9_method_18_code
def yX7_move : MethodName := ⟨RX7, "move", "(I)Z"⟩
abbrev cX7_stretch : ByteArray := prog_9_method_19_code
def yX7_stretch : MethodName := ⟨RX7, "stretch", "(I)Z"⟩
abbrev cX7_weigh : ByteArray := prog_9_method_20_code
def yX7_weigh : MethodName := ⟨RX7, "weigh", "(I)Z"⟩
abbrev cX7_isPlace : ByteArray := prog_9_method_21_code
def yX7_isPlace : MethodName := ⟨RX7, "isPlace", "(I)Z"⟩
abbrev cX7_isWeight : ByteArray := prog_9_method_22_code
def yX7_isWeight : MethodName := ⟨RX7, "isWeight", "(I)Z"⟩
abbrev cX7_adds : ByteArray := prog_9_method_23_code
def yX7_adds : MethodName := ⟨RX7, "adds", "(II)I"⟩
abbrev cX7_moves : ByteArray := prog_9_method_24_code
def yX7_moves : MethodName := ⟨RX7, "moves", "(I)I"⟩
abbrev cX7_stretches : ByteArray := prog_9_method_25_code
def yX7_stretches : MethodName := ⟨RX7, "stretches", "(I)I"⟩
abbrev cX7_weighs : ByteArray := prog_9_method_26_code
def yX7_weighs : MethodName := ⟨RX7, "weighs", "(I)I"⟩
abbrev cX7_of : ByteArray := prog_9_method_27_code
def yX7_of : MethodName := ⟨RX7, "of", "(I)I"⟩
abbrev cX7_back : ByteArray := prog_9_method_28_code
def yX7_back : MethodName := ⟨RX7, "back", "()I"⟩
abbrev cX7_clearTable : ByteArray := prog_9_method_29_code
def yX7_clearTable : MethodName := ⟨RX7, "clearTable", "(I)J"⟩
abbrev cX7_isThere : ByteArray := prog_9_method_30_code
def yX7_isThere : MethodName := ⟨RX7, "isThere", "(II)Z"⟩
abbrev cX7_detOf : ByteArray := prog_9_method_31_code
def yX7_detOf : MethodName := ⟨RX7, "detOf", "(II)J"⟩
abbrev cX7_determinant : ByteArray := prog_9_method_32_code
def yX7_determinant : MethodName := ⟨RX7, "determinant", "(II)J"⟩
abbrev cX7_common : ByteArray := prog_9_method_33_code
def yX7_common : MethodName := ⟨RX7, "common", "(JJ)J"⟩
abbrev cX7_part : ByteArray := prog_9_method_34_code
def yX7_part : MethodName := ⟨RX7, "part", "(JJI)J"⟩
abbrev cX7_isPart : ByteArray := prog_9_method_35_code
def yX7_isPart : MethodName := ⟨RX7, "isPart", "(I)Z"⟩
abbrev cX7_isPoly : ByteArray := prog_9_method_36_code
def yX7_isPoly : MethodName := ⟨RX7, "isPoly", "(I)Z"⟩
abbrev cX7_makePoly : ByteArray := prog_9_method_37_code
def yX7_makePoly : MethodName := ⟨RX7, "makePoly", "(I)V"⟩
abbrev cX7_polynomial : ByteArray := prog_9_method_38_code
def yX7_polynomial : MethodName := ⟨RX7, "polynomial", "(III)J"⟩
abbrev cX7_isNorm : ByteArray := prog_9_method_39_code
def yX7_isNorm : MethodName := ⟨RX7, "isNorm", "(I)Z"⟩
abbrev cX7_norm : ByteArray := prog_9_method_40_code
def yX7_norm : MethodName := ⟨RX7, "norm", "(II)J"⟩
abbrev cX7_rule : ByteArray := prog_9_method_41_code
def yX7_rule : MethodName := ⟨RX7, "rule", "(III)J"⟩
abbrev cX7_meanWith : ByteArray := prog_9_method_42_code
def yX7_meanWith : MethodName := ⟨RX7, "meanWith", "(II)J"⟩
abbrev cX7_judge : ByteArray := prog_9_method_43_code
def yX7_judge : MethodName := ⟨RX7, "judge", "()V"⟩
abbrev cX7_verdict : ByteArray := prog_9_method_44_code
def yX7_verdict : MethodName := ⟨RX7, "verdict", "(I)I"⟩
abbrev cX7_polyAt : ByteArray := prog_9_method_45_code
def yX7_polyAt : MethodName := ⟨RX7, "polyAt", "(III)J"⟩
abbrev cX7_isSpot : ByteArray := prog_9_method_46_code
def yX7_isSpot : MethodName := ⟨RX7, "isSpot", "(II)Z"⟩
abbrev cX7_value : ByteArray := prog_9_method_47_code
def yX7_value : MethodName := ⟨RX7, "value", "(IIII)J"⟩
abbrev cX7_isPositive : ByteArray := prog_9_method_48_code
def yX7_isPositive : MethodName := ⟨RX7, "isPositive", "(I)Z"⟩
abbrev cX7_belowSpot : ByteArray := prog_9_method_49_code
def yX7_belowSpot : MethodName := ⟨RX7, "belowSpot", "(III)I"⟩
abbrev cX7_under : ByteArray := prog_9_method_50_code
def yX7_under : MethodName := ⟨RX7, "under", "(III)I"⟩
abbrev cX7_zero : ByteArray := prog_9_method_51_code
def yX7_zero : MethodName := ⟨RX7, "zero", "(III)I"⟩
abbrev cX7_size : ByteArray := prog_9_method_52_code
def yX7_size : MethodName := ⟨RX7, "size", "(I)I"⟩
abbrev cX7_isSet : ByteArray := prog_9_method_53_code
def yX7_isSet : MethodName := ⟨RX7, "isSet", "(I)Z"⟩
abbrev cX7_makeProduct : ByteArray := prog_9_method_54_code
def yX7_makeProduct : MethodName := ⟨RX7, "makeProduct", "(II)V"⟩
abbrev cX7_weight : ByteArray := prog_9_method_55_code
def yX7_weight : MethodName := ⟨RX7, "weight", "(III)J"⟩
abbrev cX7_exact : ByteArray := prog_9_method_56_code
def yX7_exact : MethodName := ⟨RX7, "exact", "(I)I"⟩
abbrev cX7_fraction : ByteArray := prog_9_method_57_code
def yX7_fraction : MethodName := ⟨RX7, "fraction", "(IIII)J"⟩
abbrev cX7_step : ByteArray := prog_9_method_58_code
def yX7_step : MethodName := ⟨RX7, "step", "(II)J"⟩
abbrev cX7_type : ByteArray := prog_9_method_59_code
def yX7_type : MethodName := ⟨RX7, "type", "(I)I"⟩
abbrev cX7_clear : ByteArray := prog_9_method_60_code
def yX7_clear : MethodName := ⟨RX7, "clear", "()I"⟩
abbrev cX7_mostNumbers : ByteArray := prog_9_method_61_code
def yX7_mostNumbers : MethodName := ⟨RX7, "mostNumbers", "(I)I"⟩
abbrev cX7_leastNumbers : ByteArray := prog_9_method_62_code
def yX7_leastNumbers : MethodName := ⟨RX7, "leastNumbers", "(I)I"⟩
abbrev cX7_isLetter : ByteArray := prog_9_method_63_code
def yX7_isLetter : MethodName := ⟨RX7, "isLetter", "(I)Z"⟩
abbrev cX7_beginNumber : ByteArray := prog_9_method_64_code
def yX7_beginNumber : MethodName := ⟨RX7, "beginNumber", "(Z)Z"⟩
abbrev cX7_readByte : ByteArray := prog_9_method_65_code
def yX7_readByte : MethodName := ⟨RX7, "readByte", "(I)Z"⟩
abbrev cX7_readText : ByteArray := prog_9_method_66_code
def yX7_readText : MethodName := ⟨RX7, "readText", "()I"⟩
abbrev cX7_becomeRow : ByteArray := prog_9_method_67_code
def yX7_becomeRow : MethodName := ⟨RX7, "becomeRow", "(II)Z"⟩
abbrev cX7_doOrder : ByteArray := prog_9_method_68_code
def yX7_doOrder : MethodName := ⟨RX7, "doOrder", "(I)Z"⟩
abbrev cX7_reads : ByteArray := prog_9_method_69_code
def yX7_reads : MethodName := ⟨RX7, "reads", "()I"⟩
abbrev cX7_toldOf : ByteArray := prog_9_method_70_code
def yX7_toldOf : MethodName := ⟨RX7, "toldOf", "(I)I"⟩
abbrev cX7_told : ByteArray := prog_9_method_71_code
def yX7_told : MethodName := ⟨RX7, "told", "(I)I"⟩
abbrev cX7_digest : ByteArray := prog_9_method_72_code
def yX7_digest : MethodName := ⟨RX7, "digest", "()J"⟩
def RJ6 : String := "java/lang/Integer"
def TJ6 : u_T := fun k => match k with
  | _ => ("", "", "", false)
def tyJ6 : Nat → FieldType := fun k => match k with
  | _ => .int
abbrev wsJ60 : List Cond := u_ws RJ6 TJ6 0
theorem nmJ6 : ∀ a, a < 0 → ∀ b, b < 0 → a ≠ b → (TJ6 a).2.1 ≠ (TJ6 b).2.1 := by decide +kernel
theorem tyJ6_ok : ∀ k, k < 0 → parseFieldDescriptor (TJ6 k).2.2.1 = some (tyJ6 k) := by decide +kernel
abbrev cJ6_bitCount_0f7a4 : ByteArray := prog_10_method_49_code
def yJ6_bitCount_0f7a4 : MethodName := ⟨RJ6, "bitCount", "(I)I"⟩
def RJ9 : String := "java/lang/Math"
def TJ9 : u_T := fun k => match k with
  | _ => ("", "", "", false)
def tyJ9 : Nat → FieldType := fun k => match k with
  | _ => .int
abbrev wsJ90 : List Cond := u_ws RJ9 TJ9 0
theorem nmJ9 : ∀ a, a < 0 → ∀ b, b < 0 → a ≠ b → (TJ9 a).2.1 ≠ (TJ9 b).2.1 := by decide +kernel
theorem tyJ9_ok : ∀ k, k < 0 → parseFieldDescriptor (TJ9 k).2.2.1 = some (tyJ9 k) := by decide +kernel
abbrev cJ9_abs_067f4 : ByteArray := prog_11_method_61_code
def yJ9_abs_067f4 : MethodName := ⟨RJ9, "abs", "(J)J"⟩
def RL : String := "SquaredRowsLaw"
abbrev cL_law : ByteArray := code
def yL_law : MethodName := ⟨RL, "law", "([I)Z"⟩
end
section
/-! the road of the proof: states with labels for addresses, a function that runs simple instructions, contracts over whole small worlds -/
def tbl : List Cond := lw_tbl.filter goodWord
theorem tb_good {w : Cond} (hw : w ∈ tbl) : w ∈ tbl ∧ ((w.onTables && w.keeps) = true ∨ ∃ ty, w = .arrayClass ty) := ⟨hw, good_of_word (List.mem_filter.mp hw).2⟩
theorem tb_in {w : Cond} (i : Nat) (h : lw_tbl[i]? = some w) (hg : goodWord w = true) : w ∈ tbl := List.mem_filter.mpr ⟨List.mem_of_getElem? h, hg⟩
theorem tb_goodc {y : MethodName} {b : ByteArray} {n : Nat} {r : Option FieldType} (h : Cond.code y b n r ∈ tbl) : GoodIn tbl (Cond.code y b n r :: tbl) := fun w hw => by
  rcases List.mem_cons.mp hw with h1 | h1
  · rw [h1]; exact tb_good h
  · exact tb_good h1
abbrev classes : List vw_C := [(RX0, TX0, 2), (RX1, TX1, 2), (RX2, TX2, 9), (RX3, TX3, 4), (RX4, TX4, 3), (RX5, TX5, 2), (RX6, TX6, 12), (RX7, TX7, 25)]
def tysOf (cy : Nat → ClassId) : List (ClassId × FieldType) := [(cy 0, .int), (cy 1, .long), (cy 2, .byte)]
def ownN : Nat → String
  | 0 => RX0
  | 1 => RX1
  | 2 => RX2
  | 3 => RX3
  | 4 => RX4
  | 5 => RX5
  | 6 => RX6
  | 7 => RX7
  | 8 => RJ6
  | 9 => RJ9
  | _ => RL
def nestL : List (String × Nat × MethodName × String) := [(RX3, 45, yX6_isOutside, RX6), (RX0, 42, yX6_isOutside, RX6), (RX0, 61, yX6_signOf, RX6), (RX1, 26, yX6_bitOf, RX6), (RX0, 53, yX6_power, RX6), (RX2, 84, yX6_isOutside, RX6)]
def NW (U : State) : Prop := ∀ q ∈ nestL, va_Nw (.methodLinkNest q.1 q.2.1 q.2.2.1 q.2.2.2) U
theorem NW.warm {s U : State} (hW : s.WarmedH U.vm) (h : NW s) : NW U := fun q hq => va_Nw.warmM hW (h q hq)
theorem NW.same {s U : State} (e : s.vm = U.vm) (h : NW s) : NW U := fun q hq => va_Nw.same rfl e (h q hq)
def bI (b : Bool) : Int32 := match b with
  | true => 1
  | false => 0
theorem bI_nar (b : Bool) : narrow .boolean (.int (bI b)) = .int (bI b) := by cases b <;> decide
theorem bI_fit (b : Bool) : fits .boolean (.int (bI b)) = true := by cases b <;> decide
def reV (ad : Nat → Nat) : Value → Value
  | .ref a => .ref (ad a)
  | v => v
def reE (ad : Nat → Nat) : va_E → va_E
  | .inl a => .inl a
  | .inr o => .inr (o.1, o.2.map (reV ad))
theorem reV_cat (ad : Nat → Nat) (v : Value) : (reV ad v).category = v.category := by cases v <;> rfl
theorem reV_comp (f g : Nat → Nat) (v : Value) : reV f (reV g v) = reV (fun j => f (g j)) v := by cases v <;> rfl
theorem reE_comp (f g : Nat → Nat) (c : va_E) : reE f (reE g c) = reE (fun j => f (g j)) c := by
  cases c with
  | inl a => rfl
  | inr o =>
    obtain ⟨ci, fs⟩ := o
    show Sum.inr (ci, (fs.map (reV g)).map (reV f)) = Sum.inr (ci, fs.map (reV fun j => f (g j)))
    rw [List.map_map]
    congr 3
    funext v
    exact reV_comp f g v
def wdA (ad : Nat → Nat) : Nat → List va_E → va_W
  | _, [] => []
  | n, c :: r => (ad n, reE ad c) :: wdA ad (n + 1) r
def wd (ad : Nat → Nat) (w : List va_E) : va_W := wdA ad 0 w
theorem wdA_get (ad : Nat → Nat) : ∀ (w : List va_E) (n i : Nat), (wdA ad n w)[i]? = (w[i]?).map (fun c => (ad (n + i), reE ad c))
  | [], n, i => by simp [wdA]
  | c :: r, n, 0 => by simp [wdA]
  | c :: r, n, i + 1 => by
    rw [wdA, List.getElem?_cons_succ, List.getElem?_cons_succ, wdA_get ad r (n + 1) i]
    congr 1
    funext c
    rw [show n + 1 + i = n + (i + 1) by omega]
theorem wd_get (ad : Nat → Nat) (w : List va_E) (i : Nat) : (wd ad w)[i]? = (w[i]?).map (fun c => (ad i, reE ad c)) := by
  rw [wd, wdA_get, Nat.zero_add]
theorem wd_at {ad : Nat → Nat} {w : List va_E} {i : Nat} {c : va_E} (h : w[i]? = some c) : (wd ad w)[i]? = some (ad i, reE ad c) := by rw [wd_get, h]; rfl
theorem wd_of {ad : Nat → Nat} {w : List va_E} {i : Nat} {q : Nat × va_E} (h : (wd ad w)[i]? = some q) : ∃ c, w[i]? = some c ∧ q = (ad i, reE ad c) := by
  rw [wd_get] at h
  cases hw : w[i]? with
  | none => rw [hw] at h; cases h
  | some c => rw [hw] at h; exact ⟨c, rfl, (Option.some.inj h).symm⟩
theorem wd_set (ad : Nat → Nat) (w : List va_E) (i : Nat) (c : va_E) : wd ad (w.set i c) = (wd ad w).set i (ad i, reE ad c) := by
  apply List.ext_getElem?
  intro j
  rw [wd_get]
  by_cases h : i = j
  · subst h
    rw [List.getElem?_set, List.getElem?_set]
    have hl : (wd ad w).length = w.length := by
      have : ∀ (w : List va_E) (n : Nat), (wdA ad n w).length = w.length := by
        intro w
        induction w with
        | nil => intro n; rfl
        | cons a r ih => intro n; rw [wdA, List.length_cons, List.length_cons, ih]
      exact this w 0
    rw [hl]
    by_cases hi : i < w.length <;> simp [hi]
  · rw [List.getElem?_set_ne h, List.getElem?_set_ne h, wd_get]
def lvd (ad : Nat → Nat) (lv : List (Nat × Value)) : List (Nat × Value) := lv.map (fun q => (q.1, reV ad q.2))
def look (lv : List (Nat × Value)) (i : Nat) : Option Value := match lv with
  | [] => none
  | q :: r => match Nat.beq q.1 i with
    | true => some q.2
    | false => look r i
theorem look_mem {i : Nat} {v : Value} : ∀ {lv : List (Nat × Value)}, look lv i = some v → (i, v) ∈ lv
  | [], h => by cases h
  | q :: r, h => by
    unfold look at h
    split at h
    next he =>
      have e := Nat.eq_of_beq_eq_true he
      cases h
      subst e
      exact List.mem_cons_self
    next => exact List.mem_cons_of_mem _ (look_mem h)
theorem lv_look {ad : Nat → Nat} {ls : Array Slot} {nL i : Nat} {lv : List (Nat × Value)} {v : Value} (hl : lv_has ls nL (lvd ad lv)) (h : look lv i = some v) : ls[i]? = some (.val (reV ad v)) :=
  hl.2.2 (i, reV ad v) (List.mem_map.mpr ⟨(i, v), look_mem h, rfl⟩)
def st1 (i : Nat) (v : Value) (lv : List (Nat × Value)) : List (Nat × Value) := (i, v) :: lv.filter (fun q => !(q.1 == i) && !(q.1 + 1 == i && q.2.category == 2))
def st2 (i : Nat) (v : Value) (lv : List (Nat × Value)) : List (Nat × Value) := (i, v) :: lv.filter (fun q => !(q.1 == i) && (!(q.1 == i + 1) && !(q.1 + 1 == i && q.2.category == 2)))
theorem lvd_st1 (ad : Nat → Nat) (i : Nat) (v : Value) (lv : List (Nat × Value)) : (i, reV ad v) :: (lvd ad lv).filter (fun q => !(q.1 == i) && !(q.1 + 1 == i && q.2.category == 2)) = lvd ad (st1 i v lv) := by
  unfold lvd st1
  rw [List.map_cons, List.filter_map]
  congr 2
  apply List.filter_congr
  intro q _
  simp only [Function.comp, reV_cat]
theorem lvd_st2 (ad : Nat → Nat) (i : Nat) (v : Value) (lv : List (Nat × Value)) : (i, reV ad v) :: (lvd ad lv).filter (fun q => !(q.1 == i) && (!(q.1 == i + 1) && !(q.1 + 1 == i && q.2.category == 2))) = lvd ad (st2 i v lv) := by
  unfold lvd st2
  rw [List.map_cons, List.filter_map]
  congr 2
  apply List.filter_congr
  intro q _
  simp only [Function.comp, reV_cat]
theorem lvd_pick (ad : Nat → Nat) (lv : List (Nat × Value)) (ks : List Nat) : lv_pick (lvd ad lv) ks = lvd ad (lv_pick lv ks) := by
  unfold lv_pick lvd
  induction ks with
  | nil => rfl
  | cons a r ih =>
    rw [List.filterMap_cons, List.filterMap_cons, List.getElem?_map, ih]
    cases lv[a]? with
    | none => rfl
    | some q => rfl
theorem lvd_args (ad : Nat → Nat) : ∀ (vs : List Value) (i : Nat), lv_args i (vs.map (reV ad)) = lvd ad (lv_args i vs)
  | [], _ => rfl
  | v :: vs, i => by
    rw [List.map_cons, lv_args, lv_args, lvd_args ad vs, reV_cat]
    rfl
abbrev KX : Type := Program × Launch × Env × Room × State × MethodId × Array Value × List Frame × Method × Code × va_G × (Nat → Nat) × (Nat → Prop) × Nat × Nat × (State → Prop)
/-- from this pc, these numbers, this stack and this world the machine comes to its end -/
def G (k : KX) (nL pc : Nat) (lv : List (Nat × Value)) (st : List Value) (w : List va_E) : Prop := match k with
  | (p, l, e, R, s, m, args, below, meth, c, D, ad, A, cells, slots, Q) => ∀ (H : Heap) (locs : List Loc) (ls : Array Slot), va_P D classes (wd ad w) H → va_D A (wd ad w) → va_S A s.heap H locs → lv_has ls nL (lvd ad lv) → W p l e R s m args below meth c H locs cells slots Q (F0 m pc ls (st.map (reV ad)))
def OK (k : KX) (cc : ByteArray) (o nL : Nat) (cy : Nat → ClassId) (fr lo : Nat) : Prop := match k with
  | (p, l, e, R, s, m, args, below, meth, c, D, ad, A, cells, slots, Q) => p.tables.exec = Jvm.exec ∧ c.code = cc ∧ c.maxLocals = nL ∧ s.vm.findClass (ownN o) = some m.cls ∧ (∀ w ∈ tbl, w.before args s = true) ∧ va_K D classes (tysOf cy) s ∧ NW s ∧ (fr ≤ R.frames ∧ lo ≤ R.locals) ∧ cells ≤ R.cells ∧ slots ≤ R.slots
def QG (D : va_G) (cy : Nat → ClassId) (ad : Nat → Nat) (A : Nat → Prop) (R : Option Value) (w' : List va_E) : Array Value → State → Outcome → State → Prop := fun _ st oc t => (oc = .returned (R.map (reV ad)) ∧ va_P D classes (wd ad w') t.heap ∧ va_K D classes (tysOf cy) t ∧ va_D A (wd ad w')) ∧ va_F A st t
def RT (k : KX) (cy : Nat → ClassId) (ret : Option FieldType) (V : Option Value) (w' : List va_E) : Prop := match k with
  | (p, l, e, R, s, m, args, below, meth, c, D, ad, A, cells, slots, Q) => meth.sig.returnType = ret ∧ meth.locks = false ∧ Q = MQ below (QG D cy ad A V w') args s cells slots A
/-- a method's contract over a world with labels: for these arguments and this world it answers V and leaves w' -/
def MG (cy : Nat → ClassId) (y : MethodName) (bytes : ByteArray) (maxL : Nat) (ret : Option FieldType) (fr lo : Nat) (As : List Value) (w : List va_E) (V : Option Value) (w' : List va_E) : Prop :=
  ∀ (l : Launch) (D : va_G) (ad : Nat → Nat) (A : Nat → Prop), Met l y (Cond.code y bytes maxL ret :: tbl) { frames := fr, cells := 0, slots := 0, locals := lo } (va_Pc (As.map (reV ad)) (fun U => va_P D classes (wd ad w) U.heap ∧ va_K D classes (tysOf cy) U ∧ va_D A (wd ad w) ∧ NW U)) (QG D cy ad A V w') 0 0 A
theorem lg_sl_len (ad : Nat → Nat) (As : List Value) : (lg_sl (As.map (reV ad))).length = (lg_sl As).length := by
  induction As with
  | nil => rfl
  | cons a r ih =>
    simp only [lg_sl, List.map_cons, List.flatMap_cons, List.length_append, reV_cat] at ih ⊢
    rw [ih]
    split <;> rfl
theorem MG_of {cy : Nat → ClassId} {y : MethodName} {bytes : ByteArray} {maxL : Nat} {ret : Option FieldType} {fr lo o : Nat} {As : List Value} {w : List va_E} {V : Option Value} {w' : List va_E} (hy : plainName y.cls = true ∧ y.cls = ownN o) (hn : (lg_sl As).length ≤ maxL) {lv : List (Nat × Value)} (hlv : lv_args 0 As = lv)
    (body : ∀ k : KX, OK k bytes o maxL cy fr lo → RT k cy ret V w' → G k maxL 0 lv [] w) : MG cy y bytes maxL ret fr lo As w V w' := by
  intro l D ad A
  refine Met.ofW (cc := bytes) (maxL := maxL) (ret := ret) hy.1 rfl ?_
  intro p e s m args below meth c s₁ B hml hv
  obtain ⟨rfl, hP, hK, hD, hN⟩ := hv
  have hts := atoms_spec (ws := Cond.code y bytes maxL ret :: tbl) B.pre
  have hown : s.vm.findClass y.cls = some m.cls := findClass_of_methodNamed B.named
  rw [hy.2] at hown
  have hl := lv_entry (As.map (reV ad)) (n := maxL) (by rw [lg_sl_len]; exact hn)
  rw [lvd_args, hlv] at hl
  rw [lg_entry_eq]
  exact body (p, l, e, _, s, m, _, below, meth, c, D, ad, A, 0, 0, _) ⟨B.exec, B.bytes, hml, hown, fun w hw => hts w (List.mem_cons_of_mem _ hw), hK, hN, ⟨Nat.le_refl _, Nat.le_refl _⟩, Nat.le_refl _, Nat.le_refl _⟩ ⟨B.returns, B.notSynchronized, rfl⟩ s.heap [] _ hP hD va_S.rf hl
theorem G_iret {k : KX} {cc : ByteArray} {o nL fr lo : Nat} {cy : Nat → ClassId} {pc : Nat} {lv : List (Nat × Value)} {w : List va_E} {v : Int32} (C : OK k cc o nL cy fr lo) (hR : RT k cy (some .int) (some (.int v)) w) (hd : decode cc pc = .ok (.ireturn, 1)) : G k nL pc lv [.int v] w := by
  obtain ⟨p, l, e, R, s, m, args, below, meth, c, D, ad, A, cells, slots, Q⟩ := k
  obtain ⟨hx, hb, hml, hown, hts, hK, hN, hrm⟩ := C
  obtain ⟨hr, hlocks, hQ⟩ := hR
  intro H locs ls hP hD hS hl
  rw [hQ]
  exact W.iret hx hb hr (fun t ht hW => ⟨⟨rfl, by rw [ht]; exact hP, va_K.moved hW.alike hK, hD⟩, hS.F ht⟩) hS.2.2 hd hlocks
theorem G_zret {k : KX} {cc : ByteArray} {o nL fr lo : Nat} {cy : Nat → ClassId} {pc : Nat} {lv : List (Nat × Value)} {w : List va_E} {v : Bool} (C : OK k cc o nL cy fr lo) (hR : RT k cy (some .boolean) (some (.int (bI v))) w) (hd : decode cc pc = .ok (.ireturn, 1)) : G k nL pc lv [.int (bI v)] w := by
  obtain ⟨p, l, e, R, s, m, args, below, meth, c, D, ad, A, cells, slots, Q⟩ := k
  obtain ⟨hx, hb, hml, hown, hts, hK, hN, hrm⟩ := C
  obtain ⟨hr, hlocks, hQ⟩ := hR
  intro H locs ls hP hD hS hl
  rw [hQ]
  exact W.zret hx hb hr (bI_nar v) (fun t ht hW => ⟨⟨rfl, by rw [ht]; exact hP, va_K.moved hW.alike hK, hD⟩, hS.F ht⟩) hS.2.2 hd hlocks
theorem G_lret {k : KX} {cc : ByteArray} {o nL fr lo : Nat} {cy : Nat → ClassId} {pc : Nat} {lv : List (Nat × Value)} {w : List va_E} {v : Int64} (C : OK k cc o nL cy fr lo) (hR : RT k cy (some .long) (some (.long v)) w) (hd : decode cc pc = .ok (.lreturn, 1)) : G k nL pc lv [.long v] w := by
  obtain ⟨p, l, e, R, s, m, args, below, meth, c, D, ad, A, cells, slots, Q⟩ := k
  obtain ⟨hx, hb, hml, hown, hts, hK, hN, hrm⟩ := C
  obtain ⟨hr, hlocks, hQ⟩ := hR
  intro H locs ls hP hD hS hl
  rw [hQ]
  exact W.lret hx hb hr (fun t ht hW => ⟨⟨rfl, by rw [ht]; exact hP, va_K.moved hW.alike hK, hD⟩, hS.F ht⟩) hS.2.2 hd hlocks
theorem G_vret {k : KX} {cc : ByteArray} {o nL fr lo : Nat} {cy : Nat → ClassId} {pc : Nat} {lv : List (Nat × Value)} {w : List va_E} (C : OK k cc o nL cy fr lo) (hR : RT k cy none none w) (hd : decode cc pc = .ok (.return_, 1)) : G k nL pc lv [] w := by
  obtain ⟨p, l, e, R, s, m, args, below, meth, c, D, ad, A, cells, slots, Q⟩ := k
  obtain ⟨hx, hb, hml, hown, hts, hK, hN, hrm⟩ := C
  obtain ⟨hr, hlocks, hQ⟩ := hR
  intro H locs ls hP hD hS hl
  rw [hQ]
  exact W.vret hx hb hr (fun t ht hW => ⟨⟨rfl, by rw [ht]; exact hP, va_K.moved hW.alike hK, hD⟩, hS.F ht⟩) hS.2.2 hd hlocks
theorem G_lv {k : KX} {nL pc : Nat} {lv lv' : List (Nat × Value)} {st : List Value} {w : List va_E} (ks : List Nat) (hl : lv_pick lv ks = lv') (h : G k nL pc lv' st w) : G k nL pc lv st w := by
  obtain ⟨p, l, e, R, s, m, args, below, meth, c, D, ad, A, cells, slots, Q⟩ := k
  intro H locs ls hP hD hS hl2
  exact h H locs ls hP hD hS (lv_sub hl2 ks (by rw [lvd_pick, hl]))
end
section
def clN (ci : Nat) : vw_C := classes.getD ci (RX0, TX0, 2)
def flC (q : Nat × Nat × Nat × Nat) : Cond := .fieldLink (ownN q.1) q.2.1 ((clN q.2.2.1).2.1 q.2.2.2).1 ((clN q.2.2.1).2.1 q.2.2.2).2.1 ((clN q.2.2.1).2.1 q.2.2.2).2.2.1
def flL : List (Nat × Nat × Nat × Nat) := [(1, 9, 1, 0), (1, 15, 1, 1), (3, 9, 3, 0), (3, 15, 3, 1), (3, 22, 3, 2), (3, 26, 3, 3), (0, 11, 0, 0), (0, 21, 0, 1), (4, 11, 4, 0), (4, 19, 4, 1), (4, 15, 4, 2), (5, 9, 5, 0), (5, 15, 5, 1), (2, 9, 2, 0), (2, 15, 2, 1), (2, 18, 2, 2), (2, 21, 2, 3), (2, 25, 2, 4), (2, 28, 2, 5), (2, 51, 2, 6), (2, 55, 2, 7), (2, 74, 2, 8), (6, 12, 6, 0), (6, 16, 6, 1), (6, 22, 6, 2), (6, 26, 6, 3), (6, 32, 6, 4), (6, 39, 6, 5), (6, 46, 6, 6), (6, 53, 6, 7), (6, 57, 6, 8), (6, 222, 6, 9), (6, 226, 6, 10), (6, 229, 6, 11), (7, 7, 7, 0), (7, 13, 7, 1), (7, 16, 7, 2), (7, 56, 7, 3), (7, 19, 7, 4), (7, 22, 7, 5), (7, 220, 7, 6), (7, 25, 7, 7), (7, 28, 7, 8), (7, 31, 7, 9), (7, 242, 7, 10), (7, 34, 7, 11), (7, 38, 7, 12), (7, 41, 7, 13), (7, 153, 7, 14), (7, 44, 7, 15), (7, 47, 7, 16), (7, 204, 7, 17), (7, 50, 7, 18), (7, 229, 7, 19), (7, 226, 7, 20), (7, 232, 7, 21), (7, 252, 7, 22), (7, 235, 7, 23), (7, 239, 7, 24)]
def flP : List Nat := [85, 86, 94, 95, 96, 97, 113, 114, 128, 129, 130, 144, 145, 158, 159, 160, 161, 162, 163, 164, 165, 166, 186, 187, 188, 189, 190, 191, 192, 193, 194, 195, 196, 197, 668, 669, 670, 671, 672, 673, 674, 675, 676, 677, 678, 679, 680, 681, 682, 683, 684, 685, 686, 687, 688, 689, 690, 691, 692]
theorem fl_dec : (flL.zip flP).all (fun q => decide (lw_tbl[q.2]? = some (flC q.1)) && (goodWord (flC q.1) && (decide (q.1.2.2.1 < 8) && decide (q.1.2.2.2 < (clN q.1.2.2.1).2.2)))) = true := by decide +kernel
theorem fl_len : flL.length = flP.length := rfl
theorem fl_ok {q : Nat × Nat × Nat × Nat} (h : q ∈ flL) : flC q ∈ tbl ∧ q.2.2.1 < 8 ∧ q.2.2.2 < (clN q.2.2.1).2.2 := by
  obtain ⟨i, hi⟩ := List.getElem?_of_mem h
  have hl : i < flL.length := (List.getElem?_eq_some_iff.mp hi).1
  have h2 : flP[i]? = some flP[i] := List.getElem?_eq_getElem (by rw [← fl_len]; exact hl)
  have h3 : (q, flP[i]) ∈ flL.zip flP := List.mem_of_getElem? (i := i) (by rw [List.getElem?_zip_eq_some]; exact ⟨hi, h2⟩)
  have h4 := List.all_eq_true.mp fl_dec _ h3
  simp only [Bool.and_eq_true, decide_eq_true_eq] at h4
  exact ⟨tb_in _ h4.1 h4.2.1, h4.2.2.1, h4.2.2.2⟩
theorem cl_at : ∀ ci, ci < 8 → classes[ci]? = some (clN ci) := by
  intro ci h
  match ci, h with
  | 0, _ => rfl
  | 1, _ => rfl
  | 2, _ => rfl
  | 3, _ => rfl
  | 4, _ => rfl
  | 5, _ => rfl
  | 6, _ => rfl
  | 7, _ => rfl
  | n + 8, h => omega
theorem li0 : u_ws RX0 TX0 2 = [115, 117].filterMap (fun i => lw_tbl[i]?) ∧ (u_ws RX0 TX0 2).all goodWord = true := by decide +kernel
theorem in0 : ∀ w ∈ u_ws RX0 TX0 2, w ∈ tbl := fun w hw => by
  have hg := List.all_eq_true.mp li0.2 w hw
  rw [li0.1] at hw
  obtain ⟨i, -, hi⟩ := List.mem_filterMap.mp hw
  exact tb_in i hi hg
theorem li1 : u_ws RX1 TX1 2 = [87, 89].filterMap (fun i => lw_tbl[i]?) ∧ (u_ws RX1 TX1 2).all goodWord = true := by decide +kernel
theorem in1 : ∀ w ∈ u_ws RX1 TX1 2, w ∈ tbl := fun w hw => by
  have hg := List.all_eq_true.mp li1.2 w hw
  rw [li1.1] at hw
  obtain ⟨i, -, hi⟩ := List.mem_filterMap.mp hw
  exact tb_in i hi hg
theorem li2 : u_ws RX2 TX2 9 = [167, 169, 171, 173, 175, 177, 179, 181, 183].filterMap (fun i => lw_tbl[i]?) ∧ (u_ws RX2 TX2 9).all goodWord = true := by decide +kernel
theorem in2 : ∀ w ∈ u_ws RX2 TX2 9, w ∈ tbl := fun w hw => by
  have hg := List.all_eq_true.mp li2.2 w hw
  rw [li2.1] at hw
  obtain ⟨i, -, hi⟩ := List.mem_filterMap.mp hw
  exact tb_in i hi hg
theorem li3 : u_ws RX3 TX3 4 = [98, 100, 102, 104].filterMap (fun i => lw_tbl[i]?) ∧ (u_ws RX3 TX3 4).all goodWord = true := by decide +kernel
theorem in3 : ∀ w ∈ u_ws RX3 TX3 4, w ∈ tbl := fun w hw => by
  have hg := List.all_eq_true.mp li3.2 w hw
  rw [li3.1] at hw
  obtain ⟨i, -, hi⟩ := List.mem_filterMap.mp hw
  exact tb_in i hi hg
theorem li4 : u_ws RX4 TX4 3 = [131, 133, 135].filterMap (fun i => lw_tbl[i]?) ∧ (u_ws RX4 TX4 3).all goodWord = true := by decide +kernel
theorem in4 : ∀ w ∈ u_ws RX4 TX4 3, w ∈ tbl := fun w hw => by
  have hg := List.all_eq_true.mp li4.2 w hw
  rw [li4.1] at hw
  obtain ⟨i, -, hi⟩ := List.mem_filterMap.mp hw
  exact tb_in i hi hg
theorem li5 : u_ws RX5 TX5 2 = [146, 148].filterMap (fun i => lw_tbl[i]?) ∧ (u_ws RX5 TX5 2).all goodWord = true := by decide +kernel
theorem in5 : ∀ w ∈ u_ws RX5 TX5 2, w ∈ tbl := fun w hw => by
  have hg := List.all_eq_true.mp li5.2 w hw
  rw [li5.1] at hw
  obtain ⟨i, -, hi⟩ := List.mem_filterMap.mp hw
  exact tb_in i hi hg
theorem li6 : u_ws RX6 TX6 12 = [198, 200, 202, 204, 206, 208, 210, 212, 214, 216, 218, 220].filterMap (fun i => lw_tbl[i]?) ∧ (u_ws RX6 TX6 12).all goodWord = true := by decide +kernel
theorem in6 : ∀ w ∈ u_ws RX6 TX6 12, w ∈ tbl := fun w hw => by
  have hg := List.all_eq_true.mp li6.2 w hw
  rw [li6.1] at hw
  obtain ⟨i, -, hi⟩ := List.mem_filterMap.mp hw
  exact tb_in i hi hg
theorem li7 : u_ws RX7 TX7 25 = [693, 695, 697, 699, 701, 703, 705, 707, 709, 711, 713, 715, 717, 719, 721, 723, 725, 727, 729, 731, 733, 735, 737, 739, 741].filterMap (fun i => lw_tbl[i]?) ∧ (u_ws RX7 TX7 25).all goodWord = true := by decide +kernel
theorem in7 : ∀ w ∈ u_ws RX7 TX7 25, w ∈ tbl := fun w hw => by
  have hg := List.all_eq_true.mp li7.2 w hw
  rw [li7.1] at hw
  obtain ⟨i, -, hi⟩ := List.mem_filterMap.mp hw
  exact tb_in i hi hg
theorem cl_in : ∀ ci, ci < 8 → ∀ w ∈ u_ws (clN ci).1 (clN ci).2.1 (clN ci).2.2, w ∈ tbl := by
  intro ci h
  match ci, h with
  | 0, _ => exact in0
  | 1, _ => exact in1
  | 2, _ => exact in2
  | 3, _ => exact in3
  | 4, _ => exact in4
  | 5, _ => exact in5
  | 6, _ => exact in6
  | 7, _ => exact in7
  | n + 8, h => omega
def tyN (ci : Nat) : Nat → FieldType := match ci with
  | 0 => tyX0
  | 1 => tyX1
  | 2 => tyX2
  | 3 => tyX3
  | 4 => tyX4
  | 5 => tyX5
  | 6 => tyX6
  | _ => tyX7
theorem cl_ty : ∀ ci, ci < 8 → ∀ k, k < (clN ci).2.2 → parseFieldDescriptor ((clN ci).2.1 k).2.2.1 = some (tyN ci k) := by
  intro ci h
  match ci, h with
  | 0, _ => exact tyX0_ok
  | 1, _ => exact tyX1_ok
  | 2, _ => exact tyX2_ok
  | 3, _ => exact tyX3_ok
  | 4, _ => exact tyX4_ok
  | 5, _ => exact tyX5_ok
  | 6, _ => exact tyX6_ok
  | 7, _ => exact tyX7_ok
  | n + 8, h => omega
theorem cl_nm : ∀ ci, ci < 8 → ∀ a, a < (clN ci).2.2 → ∀ b, b < (clN ci).2.2 → a ≠ b → ((clN ci).2.1 a).2.1 ≠ ((clN ci).2.1 b).2.1 := by
  intro ci h
  match ci, h with
  | 0, _ => exact nmX0
  | 1, _ => exact nmX1
  | 2, _ => exact nmX2
  | 3, _ => exact nmX3
  | 4, _ => exact nmX4
  | 5, _ => exact nmX5
  | 6, _ => exact nmX6
  | 7, _ => exact nmX7
  | n + 8, h => omega
abbrev AI : Type := Instr × Nat × Nat × Nat × Value
abbrev MS : Type := List (Nat × Value) × List Value × List va_E
def ldI (lv : List (Nat × Value)) (n : Nat) (st : List Value) (w : List va_E) : Option MS := match look lv n with
  | some (.int x) => some (lv, .int x :: st, w)
  | _ => none
def ldJ (lv : List (Nat × Value)) (n : Nat) (st : List Value) (w : List va_E) : Option MS := match look lv n with
  | some (.long x) => some (lv, .long x :: st, w)
  | _ => none
def ldA (lv : List (Nat × Value)) (n : Nat) (st : List Value) (w : List va_E) : Option MS := match look lv n with
  | some (.ref x) => some (lv, .ref x :: st, w)
  | _ => none
def stI (nL : Nat) (lv : List (Nat × Value)) (n : Nat) (st : List Value) (w : List va_E) : Option MS := match Nat.blt n nL, st with
  | true, .int x :: r => some (st1 n (.int x) lv, r, w)
  | _, _ => none
def stJ (nL : Nat) (lv : List (Nat × Value)) (n : Nat) (st : List Value) (w : List va_E) : Option MS := match Nat.blt (n + 1) nL, st with
  | true, .long x :: r => some (st2 n (.long x) lv, r, w)
  | _, _ => none
def getF (ci kf : Nat) (lv : List (Nat × Value)) (st : List Value) (w : List va_E) : Option MS := match st with
  | .ref a :: r => match w[a]? with
    | some (.inr (c, fs)) => match Nat.beq c ci, fs[kf]? with
      | true, some v => some (lv, v :: r, w)
      | _, _ => none
    | _ => none
  | _ => none
def putF (ci kf : Nat) (lv : List (Nat × Value)) (st : List Value) (w : List va_E) : Option MS := match st with
  | .int x :: .ref a :: r => match w[a]? with
    | some (.inr (c, fs)) => match Nat.beq c ci, Nat.blt kf fs.length, tyN ci kf, ((clN ci).2.1 kf).2.2.2 with
      | true, true, .int, false => some (lv, r, w.set a (.inr (c, fs.set kf (.int x))))
      | _, _, _, _ => none
    | _ => none
  | .long x :: .ref a :: r => match w[a]? with
    | some (.inr (c, fs)) => match Nat.beq c ci, Nat.blt kf fs.length, tyN ci kf, ((clN ci).2.1 kf).2.2.2 with
      | true, true, .long, false => some (lv, r, w.set a (.inr (c, fs.set kf (.long x))))
      | _, _, _, _ => none
    | _ => none
  | _ => none
def nx (nL : Nat) (i : Instr) (ci kf : Nat) (v : Value) (lv : List (Nat × Value)) (st : List Value) (w : List va_E) : Option MS := match i with
  | .iconst _ => some (lv, v :: st, w)
  | .bipush _ => some (lv, v :: st, w)
  | .sipush _ => some (lv, v :: st, w)
  | .lconst _ => some (lv, v :: st, w)
  | .iload n => ldI lv n st w
  | .iload_n n => ldI lv n.val st w
  | .lload n => ldJ lv n st w
  | .lload_n n => ldJ lv n.val st w
  | .aload n => ldA lv n st w
  | .aload_n n => ldA lv n.val st w
  | .istore n => stI nL lv n st w
  | .istore_n n => stI nL lv n.val st w
  | .lstore n => stJ nL lv n st w
  | .lstore_n n => stJ nL lv n.val st w
  | .iinc n _ => match Nat.blt n nL, look lv n, v with
    | true, some (.int x), .int d => some (st1 n (.int (x + d)) lv, st, w)
    | _, _, _ => none
  | .iadd => match st with
    | .int y :: .int x :: r => some (lv, .int (x + y) :: r, w)
    | _ => none
  | .isub => match st with
    | .int y :: .int x :: r => some (lv, .int (x - y) :: r, w)
    | _ => none
  | .imul => match st with
    | .int y :: .int x :: r => some (lv, .int (x * y) :: r, w)
    | _ => none
  | .iand => match st with
    | .int y :: .int x :: r => some (lv, .int (x &&& y) :: r, w)
    | _ => none
  | .ixor => match st with
    | .int y :: .int x :: r => some (lv, .int (x ^^^ y) :: r, w)
    | _ => none
  | .ineg => match st with
    | .int x :: r => some (lv, .int (-x) :: r, w)
    | _ => none
  | .ishl => match st with
    | .int y :: .int x :: r => some (lv, .int (x <<< (y &&& 31)) :: r, w)
    | _ => none
  | .ishr => match st with
    | .int y :: .int x :: r => some (lv, .int (x >>> (y &&& 31)) :: r, w)
    | _ => none
  | .iushr => match st with
    | .int y :: .int x :: r => some (lv, .int (x.toUInt32 >>> (y.toUInt32 &&& Int32.toUInt32 31)).toInt32 :: r, w)
    | _ => none
  | .ladd => match st with
    | .long y :: .long x :: r => some (lv, .long (x + y) :: r, w)
    | _ => none
  | .lsub => match st with
    | .long y :: .long x :: r => some (lv, .long (x - y) :: r, w)
    | _ => none
  | .lmul => match st with
    | .long y :: .long x :: r => some (lv, .long (x * y) :: r, w)
    | _ => none
  | .lneg => match st with
    | .long x :: r => some (lv, .long (-x) :: r, w)
    | _ => none
  | .i2l => match st with
    | .int x :: r => some (lv, .long x.toInt64 :: r, w)
    | _ => none
  | .l2i => match st with
    | .long x :: r => some (lv, .int x.toInt32 :: r, w)
    | _ => none
  | .i2b => match st with
    | .int x :: r => some (lv, .int x.toInt8.toInt32 :: r, w)
    | _ => none
  | .dup => match st with
    | .int x :: r => some (lv, .int x :: .int x :: r, w)
    | .ref x :: r => some (lv, .ref x :: .ref x :: r, w)
    | _ => none
  | .dup2 => match st with
    | .int x :: .ref y :: r => some (lv, .int x :: .ref y :: .int x :: .ref y :: r, w)
    | .int x :: .int y :: r => some (lv, .int x :: .int y :: .int x :: .int y :: r, w)
    | .long x :: r => some (lv, .long x :: .long x :: r, w)
    | _ => none
  | .getfield _ => getF ci kf lv st w
  | .putfield _ => putF ci kf lv st w
  | _ => none
def lenI (i : Instr) : Nat := match i with
  | .bipush _ => 2
  | .sipush _ => 3
  | .iload _ => 2
  | .lload _ => 2
  | .aload _ => 2
  | .istore _ => 2
  | .lstore _ => 2
  | .iinc _ _ => 3
  | .getfield _ => 3
  | .putfield _ => 3
  | _ => 1
def okI (o : Nat) (i : Instr) (ci kf : Nat) (v : Value) : Bool := match i with
  | .iconst n => decide (v = .int (Int32.ofInt n))
  | .bipush n => decide (v = .int (Int8.ofInt n).toInt32)
  | .sipush n => decide (v = .int (Int16.ofInt n).toInt32)
  | .lconst n => decide (v = .long (Int64.ofNat n.val))
  | .iinc _ n => decide (v = .int (Int32.ofInt n))
  | .getfield idx => decide ((o, idx, ci, kf) ∈ flL)
  | .putfield idx => decide ((o, idx, ci, kf) ∈ flL)
  | _ => true
theorem nx_ok {k : KX} {cc : ByteArray} {o nL fr lo : Nat} {cy : Nat → ClassId} {pc : Nat} {lv lv' : List (Nat × Value)} {st st' : List Value} {w w' : List va_E} (C : OK k cc o nL cy fr lo) {i : Instr} {ci kf : Nat} {v : Value} (hd : decode cc pc = .ok (i, lenI i)) (ho : okI o i ci kf v = true) (hn : nx nL i ci kf v lv st w = some (lv', st', w')) (h : G k nL (pc + lenI i) lv' st' w') : G k nL pc lv st w := by
  obtain ⟨p, l, e, R, s, m, args, below, meth, c, D, ad, A, cells, slots, Q⟩ := k
  obtain ⟨hx, hb, hml, hown, hts, hK, hN, hrm⟩ := C
  intro H locs ls hP hD hS hl
  cases i
  case iconst a =>
    have e := of_decide_eq_true ho
    cases hn
    subst e
    exact lv_iconst hx hb hd rfl (h H locs ls hP hD hS hl)
  case bipush a =>
    have e := of_decide_eq_true ho
    cases hn
    subst e
    exact lv_bipush hx hb hd rfl (h H locs ls hP hD hS hl)
  case sipush a =>
    have e := of_decide_eq_true ho
    cases hn
    subst e
    exact lv_sipush hx hb hd rfl (h H locs ls hP hD hS hl)
  case lconst a =>
    have e := of_decide_eq_true ho
    cases hn
    subst e
    exact lv_lconst hx hb hd rfl (h H locs ls hP hD hS hl)
  case iload a =>
    simp only [nx, ldI] at hn
    split at hn
    · next x hlk => cases hn; exact lv_iload hx hb hd (lv_look hl hlk) (h H locs ls hP hD hS hl)
    · cases hn
  case iload_n a =>
    simp only [nx, ldI] at hn
    split at hn
    · next x hlk => cases hn; exact lv_iload_n hx hb hd rfl (lv_look hl hlk) (h H locs ls hP hD hS hl)
    · cases hn
  case lload a =>
    simp only [nx, ldJ] at hn
    split at hn
    · next x hlk => cases hn; exact lv_lload hx hb hd (lv_look hl hlk) (h H locs ls hP hD hS hl)
    · cases hn
  case lload_n a =>
    simp only [nx, ldJ] at hn
    split at hn
    · next x hlk => cases hn; exact lv_lload_n hx hb hd rfl (lv_look hl hlk) (h H locs ls hP hD hS hl)
    · cases hn
  case aload a =>
    simp only [nx, ldA] at hn
    split at hn
    · next x hlk => cases hn; exact lv_aload hx hb hd (lv_look hl hlk) (h H locs ls hP hD hS hl)
    · cases hn
  case aload_n a =>
    simp only [nx, ldA] at hn
    split at hn
    · next x hlk => cases hn; exact lv_aload_n hx hb hd rfl (lv_look hl hlk) (h H locs ls hP hD hS hl)
    · cases hn
  case istore a =>
    simp only [nx, stI] at hn
    split at hn
    · next x r hlt => cases hn; exact lv_istore hx hb hd hl (Nat.le_of_ble_eq_true hlt) (lvd_st1 ad a (.int x) lv) (fun ls hl => h H locs ls hP hD hS hl)
    · cases hn
  case istore_n a =>
    simp only [nx, stI] at hn
    split at hn
    · next x r hlt => cases hn; exact lv_istore_n hx hb hd rfl hl (Nat.le_of_ble_eq_true hlt) (lvd_st1 ad a.val (.int x) lv) (fun ls hl => h H locs ls hP hD hS hl)
    · cases hn
  case lstore a =>
    simp only [nx, stJ] at hn
    split at hn
    · next x r hlt => cases hn; exact lv_lstore hx hb hd hl (Nat.le_of_ble_eq_true hlt) (lvd_st2 ad a (.long x) lv) (fun ls hl => h H locs ls hP hD hS hl)
    · cases hn
  case lstore_n a =>
    simp only [nx, stJ] at hn
    split at hn
    · next x r hlt => cases hn; exact lv_lstore_n hx hb hd rfl hl (Nat.le_of_ble_eq_true hlt) (lvd_st2 ad a.val (.long x) lv) (fun ls hl => h H locs ls hP hD hS hl)
    · cases hn
  case iinc a n =>
    have e := of_decide_eq_true ho
    simp only [nx] at hn
    split at hn
    · next x d hlt hlk =>
      cases hn
      cases e
      obtain ⟨q, hq⟩ := List.getElem?_of_mem (List.mem_map.mpr ⟨(a, .int x), look_mem hlk, rfl⟩ : (a, Value.int x) ∈ lvd ad lv)
      exact lv_iinc hx hb hd hl hq rfl (Nat.le_of_ble_eq_true hlt) (lvd_st1 ad a (.int (x + Int32.ofInt n)) lv) (fun ls hl => h H locs ls hP hD hS hl)
    · cases hn
  case iadd =>
    simp only [nx] at hn
    split at hn
    · cases hn; exact lv_iadd hx hb hd (h H locs ls hP hD hS hl)
    · cases hn
  case isub =>
    simp only [nx] at hn
    split at hn
    · cases hn; exact lv_isub hx hb hd (h H locs ls hP hD hS hl)
    · cases hn
  case imul =>
    simp only [nx] at hn
    split at hn
    · cases hn; exact lv_imul hx hb hd (h H locs ls hP hD hS hl)
    · cases hn
  case iand =>
    simp only [nx] at hn
    split at hn
    · cases hn; exact lv_iand hx hb hd (h H locs ls hP hD hS hl)
    · cases hn
  case ixor =>
    simp only [nx] at hn
    split at hn
    · cases hn; exact lv_ixor hx hb hd (h H locs ls hP hD hS hl)
    · cases hn
  case ineg =>
    simp only [nx] at hn
    split at hn
    · cases hn; exact lv_ineg hx hb hd (h H locs ls hP hD hS hl)
    · cases hn
  case ishl =>
    simp only [nx] at hn
    split at hn
    · cases hn; exact lv_ishl hx hb hd (h H locs ls hP hD hS hl)
    · cases hn
  case ishr =>
    simp only [nx] at hn
    split at hn
    · cases hn; exact lv_ishr hx hb hd (h H locs ls hP hD hS hl)
    · cases hn
  case iushr =>
    simp only [nx] at hn
    split at hn
    · cases hn; exact lv_iushr hx hb hd rfl (h H locs ls hP hD hS hl)
    · cases hn
  case ladd =>
    simp only [nx] at hn
    split at hn
    · cases hn; exact lv_ladd hx hb hd (h H locs ls hP hD hS hl)
    · cases hn
  case lsub =>
    simp only [nx] at hn
    split at hn
    · cases hn; exact lv_lsub hx hb hd (h H locs ls hP hD hS hl)
    · cases hn
  case lmul =>
    simp only [nx] at hn
    split at hn
    · cases hn; exact lv_lmul hx hb hd (h H locs ls hP hD hS hl)
    · cases hn
  case lneg =>
    simp only [nx] at hn
    split at hn
    · cases hn; exact lv_lneg hx hb hd (h H locs ls hP hD hS hl)
    · cases hn
  case i2l =>
    simp only [nx] at hn
    split at hn
    · cases hn; exact lv_i2l hx hb hd rfl (h H locs ls hP hD hS hl)
    · cases hn
  case l2i =>
    simp only [nx] at hn
    split at hn
    · cases hn; exact lv_l2i hx hb hd rfl (h H locs ls hP hD hS hl)
    · cases hn
  case i2b =>
    simp only [nx] at hn
    split at hn
    · cases hn; exact lv_i2b hx hb hd rfl (h H locs ls hP hD hS hl)
    · cases hn
  case dup =>
    simp only [nx] at hn
    split at hn
    · cases hn; exact lv_dup hx hb hd rfl (h H locs ls hP hD hS hl)
    · cases hn; exact lv_dup hx hb hd rfl (h H locs ls hP hD hS hl)
    · cases hn
  case dup2 =>
    simp only [nx] at hn
    split at hn
    · cases hn; exact lv_dup2_11 hx hb hd rfl rfl (h H locs ls hP hD hS hl)
    · cases hn; exact lv_dup2_11 hx hb hd rfl rfl (h H locs ls hP hD hS hl)
    · cases hn; exact lv_dup2_2 hx hb hd rfl (h H locs ls hP hD hS hl)
    · cases hn
  case getfield idx =>
    have hf := fl_ok (of_decide_eq_true ho)
    simp only [nx, getF] at hn
    split at hn
    · next a r =>
      split at hn
      · next c' fs hw =>
        split at hn
        · next v' hc hv =>
          cases hn
          have e := Nat.eq_of_beq_eq_true hc
          subst e
          exact va_get (C := (clN c').1) (T := (clN c').2.1) (N := (clN c').2.2) hx hb hts (cl_in c' hf.2.1) hown hK hP a (wd_at hw) (cl_at c' hf.2.1) kf hf.2.2 (hts _ hf.1) (fun _ q => q) (v := reV ad v') (by rw [List.getElem?_map, hv]; rfl) hd (h H locs ls hP hD hS hl)
        · cases hn
      · cases hn
    · cases hn
  case putfield idx =>
    have hf := fl_ok (of_decide_eq_true ho)
    simp only [nx, putF] at hn
    split at hn
    · next x a r =>
      split at hn
      · next c' fs hw =>
        split at hn
        · next hc hlt hty hfin =>
          cases hn
          have e := Nat.eq_of_beq_eq_true hc
          subst e
          have hlt' : kf < (fs.map (reV ad)).length := by rw [List.length_map]; exact Nat.le_of_ble_eq_true hlt
          refine va_put (C := (clN c').1) (T := (clN c').2.1) (N := (clN c').2.2) (ty := .int) (v := .int x) hx hb hts (cl_in c' hf.2.1) (tyN c') (cl_ty c' hf.2.1) (cl_nm c' hf.2.1) hown hK hP hD hS a (wd_at hw) (cl_at c' hf.2.1) kf hf.2.2 (hts _ hf.1) (fun _ q => q) hfin (by rw [cl_ty c' hf.2.1 kf hf.2.2, hty]) rfl rfl hlt' hd (fun H1 locs1 hP1 hD1 hS1 => ?_)
          have e2 : wd ad (w.set a (.inr (c', fs.set kf (.int x)))) = (wd ad w).set a (ad a, .inr (c', (fs.map (reV ad)).set kf (.int x))) := by
            rw [wd_set]
            show _ = (wd ad w).set a (ad a, .inr (c', (fs.map (reV ad)).set kf (reV ad (.int x))))
            rw [← List.map_set]
            rfl
          exact h H1 locs1 ls (by rw [e2]; exact hP1) (by rw [e2]; exact hD1) hS1 hl
        · cases hn
      · cases hn
    · next x a r =>
      split at hn
      · next c' fs hw =>
        split at hn
        · next hc hlt hty hfin =>
          cases hn
          have e := Nat.eq_of_beq_eq_true hc
          subst e
          have hlt' : kf < (fs.map (reV ad)).length := by rw [List.length_map]; exact Nat.le_of_ble_eq_true hlt
          refine va_put (C := (clN c').1) (T := (clN c').2.1) (N := (clN c').2.2) (ty := .long) (v := .long x) hx hb hts (cl_in c' hf.2.1) (tyN c') (cl_ty c' hf.2.1) (cl_nm c' hf.2.1) hown hK hP hD hS a (wd_at hw) (cl_at c' hf.2.1) kf hf.2.2 (hts _ hf.1) (fun _ q => q) hfin (by rw [cl_ty c' hf.2.1 kf hf.2.2, hty]) rfl rfl hlt' hd (fun H1 locs1 hP1 hD1 hS1 => ?_)
          have e2 : wd ad (w.set a (.inr (c', fs.set kf (.long x)))) = (wd ad w).set a (ad a, .inr (c', (fs.map (reV ad)).set kf (.long x))) := by
            rw [wd_set]
            show _ = (wd ad w).set a (ad a, .inr (c', (fs.map (reV ad)).set kf (reV ad (.long x))))
            rw [← List.map_set]
            rfl
          exact h H1 locs1 ls (by rw [e2]; exact hP1) (by rw [e2]; exact hD1) hS1 hl
        · cases hn
      · cases hn
    · cases hn
  all_goals cases hn
def runs (nL : Nat) : List AI → MS → Option MS
  | [], s => some s
  | (i, _, ci, kf, v) :: r, (lv, st, w) => match nx nL i ci kf v lv st w with
    | some s => runs nL r s
    | none => none
def chk (o : Nat) (cc : ByteArray) : Nat → List AI → Bool
  | _, [] => true
  | pc, (i, n, ci, kf, v) :: r => decide (decode cc pc = .ok (i, n)) && (decide (n = lenI i) && (okI o i ci kf v && chk o cc (pc + n) r))
def pcs : Nat → List AI → Nat
  | pc, [] => pc
  | pc, (_, n, _, _, _) :: r => pcs (pc + n) r
theorem G_run {k : KX} {cc : ByteArray} {o nL fr lo : Nat} {cy : Nat → ClassId} (C : OK k cc o nL cy fr lo) : ∀ (code : List AI) {pc pc' : Nat} {lv lv' : List (Nat × Value)} {st st' : List Value} {w w' : List va_E}, chk o cc pc code = true → runs nL code (lv, st, w) = some (lv', st', w') → pcs pc code = pc' → G k nL pc' lv' st' w' → G k nL pc lv st w
  | [], pc, pc', lv, lv', st, st', w, w', _, hr, hp, h => by
    cases hr
    cases hp
    exact h
  | (i, n, ci, kf, v) :: r, pc, pc', lv, lv', st, st', w, w', hc, hr, hp, h => by
    simp only [chk, Bool.and_eq_true, decide_eq_true_eq] at hc
    obtain ⟨h1, h2, h3, h4⟩ := hc
    rw [runs] at hr
    split at hr
    · next s hs =>
      obtain ⟨lv1, st1, w1⟩ := s
      subst h2
      exact nx_ok C h1 h3 hs (G_run C r h4 hr hp h)
    · cases hr
end
section
theorem G_goto {k : KX} {cc : ByteArray} {o nL fr lo : Nat} {cy : Nat → ClassId} {pc : Nat} {lv : List (Nat × Value)} {st : List Value} {w : List va_E} (C : OK k cc o nL cy fr lo) {off : Int} {tgt : Nat} (hd : decode cc pc = .ok (.goto off, 3)) (ht : (pc : Int) + off = (tgt : Int)) (h : G k nL tgt lv st w) : G k nL pc lv st w := by
  obtain ⟨p, l, e, R, s, m, args, below, meth, c, D, ad, A, cells, slots, Q⟩ := k
  obtain ⟨hx, hb, hml, hown, hts, hK, hN, hrm⟩ := C
  intro H locs ls hP hD hS hl
  exact lv_goto hx hb hd ht (h H locs ls hP hD hS hl)
theorem G_if_eq {k : KX} {cc : ByteArray} {o nL fr lo : Nat} {cy : Nat → ClassId} {pc : Nat} {lv : List (Nat × Value)} {st : List Value} {w : List va_E} (C : OK k cc o nL cy fr lo) {x : Int32} {off : Int} {tgt : Nat} (hd : decode cc pc = .ok (.ifCond .eq off, 3)) (ht : (pc : Int) + off = (tgt : Int)) (kt : x = 0 → G k nL tgt lv st w) (kf : ¬ x = 0 → G k nL (pc + 3) lv st w) : G k nL pc lv (.int x :: st) w := by
  obtain ⟨p, l, e, R, s, m, args, below, meth, c, D, ad, A, cells, slots, Q⟩ := k
  obtain ⟨hx, hb, hml, hown, hts, hK, hN, hrm⟩ := C
  intro H locs ls hP hD hS hl
  exact lv_if_eq hx hb hd ht (fun q => kt q H locs ls hP hD hS hl) (fun q => kf q H locs ls hP hD hS hl)
theorem G_icmp_eq {k : KX} {cc : ByteArray} {o nL fr lo : Nat} {cy : Nat → ClassId} {pc : Nat} {lv : List (Nat × Value)} {st : List Value} {w : List va_E} (C : OK k cc o nL cy fr lo) {x y : Int32} {off : Int} {tgt : Nat} (hd : decode cc pc = .ok (.if_icmp .eq off, 3)) (ht : (pc : Int) + off = (tgt : Int)) (kt : x = y → G k nL tgt lv st w) (kf : ¬ x = y → G k nL (pc + 3) lv st w) : G k nL pc lv (.int y :: .int x :: st) w := by
  obtain ⟨p, l, e, R, s, m, args, below, meth, c, D, ad, A, cells, slots, Q⟩ := k
  obtain ⟨hx, hb, hml, hown, hts, hK, hN, hrm⟩ := C
  intro H locs ls hP hD hS hl
  exact lv_icmp_eq hx hb hd ht (fun q => kt q H locs ls hP hD hS hl) (fun q => kf q H locs ls hP hD hS hl)
theorem G_lcmp_eq {k : KX} {cc : ByteArray} {o nL fr lo : Nat} {cy : Nat → ClassId} {pc : Nat} {lv : List (Nat × Value)} {st : List Value} {w : List va_E} (C : OK k cc o nL cy fr lo) {x y : Int64} {off : Int} {tgt : Nat} (h0 : decode cc pc = .ok (.lcmp, 1)) (hd : decode cc (pc + 1) = .ok (.ifCond .eq off, 3)) (ht : ((pc + 1 : Nat) : Int) + off = (tgt : Int)) (kt : x = y → G k nL tgt lv st w) (kf : ¬ x = y → G k nL (pc + 1 + 3) lv st w) : G k nL pc lv (.long y :: .long x :: st) w := by
  obtain ⟨p, l, e, R, s, m, args, below, meth, c, D, ad, A, cells, slots, Q⟩ := k
  obtain ⟨hx, hb, hml, hown, hts, hK, hN, hrm⟩ := C
  intro H locs ls hP hD hS hl
  exact W.lcmp hx hb h0 (lv_if_eq hx hb hd ht (fun q => kt ((lg_cmp_eq x y).mp q) H locs ls hP hD hS hl) (fun q => kf (fun z => q ((lg_cmp_eq x y).mpr z)) H locs ls hP hD hS hl))
theorem G_if_ne {k : KX} {cc : ByteArray} {o nL fr lo : Nat} {cy : Nat → ClassId} {pc : Nat} {lv : List (Nat × Value)} {st : List Value} {w : List va_E} (C : OK k cc o nL cy fr lo) {x : Int32} {off : Int} {tgt : Nat} (hd : decode cc pc = .ok (.ifCond .ne off, 3)) (ht : (pc : Int) + off = (tgt : Int)) (kt : ¬ x = 0 → G k nL tgt lv st w) (kf : x = 0 → G k nL (pc + 3) lv st w) : G k nL pc lv (.int x :: st) w := by
  obtain ⟨p, l, e, R, s, m, args, below, meth, c, D, ad, A, cells, slots, Q⟩ := k
  obtain ⟨hx, hb, hml, hown, hts, hK, hN, hrm⟩ := C
  intro H locs ls hP hD hS hl
  exact lv_if_ne hx hb hd ht (fun q => kt q H locs ls hP hD hS hl) (fun q => kf q H locs ls hP hD hS hl)
theorem G_icmp_ne {k : KX} {cc : ByteArray} {o nL fr lo : Nat} {cy : Nat → ClassId} {pc : Nat} {lv : List (Nat × Value)} {st : List Value} {w : List va_E} (C : OK k cc o nL cy fr lo) {x y : Int32} {off : Int} {tgt : Nat} (hd : decode cc pc = .ok (.if_icmp .ne off, 3)) (ht : (pc : Int) + off = (tgt : Int)) (kt : ¬ x = y → G k nL tgt lv st w) (kf : x = y → G k nL (pc + 3) lv st w) : G k nL pc lv (.int y :: .int x :: st) w := by
  obtain ⟨p, l, e, R, s, m, args, below, meth, c, D, ad, A, cells, slots, Q⟩ := k
  obtain ⟨hx, hb, hml, hown, hts, hK, hN, hrm⟩ := C
  intro H locs ls hP hD hS hl
  exact lv_icmp_ne hx hb hd ht (fun q => kt q H locs ls hP hD hS hl) (fun q => kf q H locs ls hP hD hS hl)
theorem G_lcmp_ne {k : KX} {cc : ByteArray} {o nL fr lo : Nat} {cy : Nat → ClassId} {pc : Nat} {lv : List (Nat × Value)} {st : List Value} {w : List va_E} (C : OK k cc o nL cy fr lo) {x y : Int64} {off : Int} {tgt : Nat} (h0 : decode cc pc = .ok (.lcmp, 1)) (hd : decode cc (pc + 1) = .ok (.ifCond .ne off, 3)) (ht : ((pc + 1 : Nat) : Int) + off = (tgt : Int)) (kt : ¬ x = y → G k nL tgt lv st w) (kf : x = y → G k nL (pc + 1 + 3) lv st w) : G k nL pc lv (.long y :: .long x :: st) w := by
  obtain ⟨p, l, e, R, s, m, args, below, meth, c, D, ad, A, cells, slots, Q⟩ := k
  obtain ⟨hx, hb, hml, hown, hts, hK, hN, hrm⟩ := C
  intro H locs ls hP hD hS hl
  exact W.lcmp hx hb h0 (lv_if_ne hx hb hd ht (fun q => kt (fun z => q ((lg_cmp_eq x y).mpr z)) H locs ls hP hD hS hl) (fun q => kf ((lg_cmp_eq x y).mp q) H locs ls hP hD hS hl))
theorem G_if_lt {k : KX} {cc : ByteArray} {o nL fr lo : Nat} {cy : Nat → ClassId} {pc : Nat} {lv : List (Nat × Value)} {st : List Value} {w : List va_E} (C : OK k cc o nL cy fr lo) {x : Int32} {off : Int} {tgt : Nat} (hd : decode cc pc = .ok (.ifCond .lt off, 3)) (ht : (pc : Int) + off = (tgt : Int)) (kt : x < 0 → G k nL tgt lv st w) (kf : ¬ x < 0 → G k nL (pc + 3) lv st w) : G k nL pc lv (.int x :: st) w := by
  obtain ⟨p, l, e, R, s, m, args, below, meth, c, D, ad, A, cells, slots, Q⟩ := k
  obtain ⟨hx, hb, hml, hown, hts, hK, hN, hrm⟩ := C
  intro H locs ls hP hD hS hl
  exact lv_if_lt hx hb hd ht (fun q => kt q H locs ls hP hD hS hl) (fun q => kf q H locs ls hP hD hS hl)
theorem G_icmp_lt {k : KX} {cc : ByteArray} {o nL fr lo : Nat} {cy : Nat → ClassId} {pc : Nat} {lv : List (Nat × Value)} {st : List Value} {w : List va_E} (C : OK k cc o nL cy fr lo) {x y : Int32} {off : Int} {tgt : Nat} (hd : decode cc pc = .ok (.if_icmp .lt off, 3)) (ht : (pc : Int) + off = (tgt : Int)) (kt : x < y → G k nL tgt lv st w) (kf : ¬ x < y → G k nL (pc + 3) lv st w) : G k nL pc lv (.int y :: .int x :: st) w := by
  obtain ⟨p, l, e, R, s, m, args, below, meth, c, D, ad, A, cells, slots, Q⟩ := k
  obtain ⟨hx, hb, hml, hown, hts, hK, hN, hrm⟩ := C
  intro H locs ls hP hD hS hl
  exact lv_icmp_lt hx hb hd ht (fun q => kt q H locs ls hP hD hS hl) (fun q => kf q H locs ls hP hD hS hl)
theorem G_lcmp_lt {k : KX} {cc : ByteArray} {o nL fr lo : Nat} {cy : Nat → ClassId} {pc : Nat} {lv : List (Nat × Value)} {st : List Value} {w : List va_E} (C : OK k cc o nL cy fr lo) {x y : Int64} {off : Int} {tgt : Nat} (h0 : decode cc pc = .ok (.lcmp, 1)) (hd : decode cc (pc + 1) = .ok (.ifCond .lt off, 3)) (ht : ((pc + 1 : Nat) : Int) + off = (tgt : Int)) (kt : x < y → G k nL tgt lv st w) (kf : ¬ x < y → G k nL (pc + 1 + 3) lv st w) : G k nL pc lv (.long y :: .long x :: st) w := by
  obtain ⟨p, l, e, R, s, m, args, below, meth, c, D, ad, A, cells, slots, Q⟩ := k
  obtain ⟨hx, hb, hml, hown, hts, hK, hN, hrm⟩ := C
  intro H locs ls hP hD hS hl
  exact W.lcmp hx hb h0 (lv_if_lt hx hb hd ht (fun q => kt ((lg_cmp_lt x y).mp q) H locs ls hP hD hS hl) (fun q => kf (fun z => q ((lg_cmp_lt x y).mpr z)) H locs ls hP hD hS hl))
theorem G_if_ge {k : KX} {cc : ByteArray} {o nL fr lo : Nat} {cy : Nat → ClassId} {pc : Nat} {lv : List (Nat × Value)} {st : List Value} {w : List va_E} (C : OK k cc o nL cy fr lo) {x : Int32} {off : Int} {tgt : Nat} (hd : decode cc pc = .ok (.ifCond .ge off, 3)) (ht : (pc : Int) + off = (tgt : Int)) (kt : 0 ≤ x → G k nL tgt lv st w) (kf : ¬ 0 ≤ x → G k nL (pc + 3) lv st w) : G k nL pc lv (.int x :: st) w := by
  obtain ⟨p, l, e, R, s, m, args, below, meth, c, D, ad, A, cells, slots, Q⟩ := k
  obtain ⟨hx, hb, hml, hown, hts, hK, hN, hrm⟩ := C
  intro H locs ls hP hD hS hl
  exact lv_if_ge hx hb hd ht (fun q => kt q H locs ls hP hD hS hl) (fun q => kf q H locs ls hP hD hS hl)
theorem G_icmp_ge {k : KX} {cc : ByteArray} {o nL fr lo : Nat} {cy : Nat → ClassId} {pc : Nat} {lv : List (Nat × Value)} {st : List Value} {w : List va_E} (C : OK k cc o nL cy fr lo) {x y : Int32} {off : Int} {tgt : Nat} (hd : decode cc pc = .ok (.if_icmp .ge off, 3)) (ht : (pc : Int) + off = (tgt : Int)) (kt : y ≤ x → G k nL tgt lv st w) (kf : ¬ y ≤ x → G k nL (pc + 3) lv st w) : G k nL pc lv (.int y :: .int x :: st) w := by
  obtain ⟨p, l, e, R, s, m, args, below, meth, c, D, ad, A, cells, slots, Q⟩ := k
  obtain ⟨hx, hb, hml, hown, hts, hK, hN, hrm⟩ := C
  intro H locs ls hP hD hS hl
  exact lv_icmp_ge hx hb hd ht (fun q => kt q H locs ls hP hD hS hl) (fun q => kf q H locs ls hP hD hS hl)
theorem G_lcmp_ge {k : KX} {cc : ByteArray} {o nL fr lo : Nat} {cy : Nat → ClassId} {pc : Nat} {lv : List (Nat × Value)} {st : List Value} {w : List va_E} (C : OK k cc o nL cy fr lo) {x y : Int64} {off : Int} {tgt : Nat} (h0 : decode cc pc = .ok (.lcmp, 1)) (hd : decode cc (pc + 1) = .ok (.ifCond .ge off, 3)) (ht : ((pc + 1 : Nat) : Int) + off = (tgt : Int)) (kt : y ≤ x → G k nL tgt lv st w) (kf : ¬ y ≤ x → G k nL (pc + 1 + 3) lv st w) : G k nL pc lv (.long y :: .long x :: st) w := by
  obtain ⟨p, l, e, R, s, m, args, below, meth, c, D, ad, A, cells, slots, Q⟩ := k
  obtain ⟨hx, hb, hml, hown, hts, hK, hN, hrm⟩ := C
  intro H locs ls hP hD hS hl
  exact W.lcmp hx hb h0 (lv_if_ge hx hb hd ht (fun q => kt ((lg_cmp_ge x y).mp q) H locs ls hP hD hS hl) (fun q => kf (fun z => q ((lg_cmp_ge x y).mpr z)) H locs ls hP hD hS hl))
theorem G_if_gt {k : KX} {cc : ByteArray} {o nL fr lo : Nat} {cy : Nat → ClassId} {pc : Nat} {lv : List (Nat × Value)} {st : List Value} {w : List va_E} (C : OK k cc o nL cy fr lo) {x : Int32} {off : Int} {tgt : Nat} (hd : decode cc pc = .ok (.ifCond .gt off, 3)) (ht : (pc : Int) + off = (tgt : Int)) (kt : 0 < x → G k nL tgt lv st w) (kf : ¬ 0 < x → G k nL (pc + 3) lv st w) : G k nL pc lv (.int x :: st) w := by
  obtain ⟨p, l, e, R, s, m, args, below, meth, c, D, ad, A, cells, slots, Q⟩ := k
  obtain ⟨hx, hb, hml, hown, hts, hK, hN, hrm⟩ := C
  intro H locs ls hP hD hS hl
  exact lv_if_gt hx hb hd ht (fun q => kt q H locs ls hP hD hS hl) (fun q => kf q H locs ls hP hD hS hl)
theorem G_icmp_gt {k : KX} {cc : ByteArray} {o nL fr lo : Nat} {cy : Nat → ClassId} {pc : Nat} {lv : List (Nat × Value)} {st : List Value} {w : List va_E} (C : OK k cc o nL cy fr lo) {x y : Int32} {off : Int} {tgt : Nat} (hd : decode cc pc = .ok (.if_icmp .gt off, 3)) (ht : (pc : Int) + off = (tgt : Int)) (kt : y < x → G k nL tgt lv st w) (kf : ¬ y < x → G k nL (pc + 3) lv st w) : G k nL pc lv (.int y :: .int x :: st) w := by
  obtain ⟨p, l, e, R, s, m, args, below, meth, c, D, ad, A, cells, slots, Q⟩ := k
  obtain ⟨hx, hb, hml, hown, hts, hK, hN, hrm⟩ := C
  intro H locs ls hP hD hS hl
  exact lv_icmp_gt hx hb hd ht (fun q => kt q H locs ls hP hD hS hl) (fun q => kf q H locs ls hP hD hS hl)
theorem G_lcmp_gt {k : KX} {cc : ByteArray} {o nL fr lo : Nat} {cy : Nat → ClassId} {pc : Nat} {lv : List (Nat × Value)} {st : List Value} {w : List va_E} (C : OK k cc o nL cy fr lo) {x y : Int64} {off : Int} {tgt : Nat} (h0 : decode cc pc = .ok (.lcmp, 1)) (hd : decode cc (pc + 1) = .ok (.ifCond .gt off, 3)) (ht : ((pc + 1 : Nat) : Int) + off = (tgt : Int)) (kt : y < x → G k nL tgt lv st w) (kf : ¬ y < x → G k nL (pc + 1 + 3) lv st w) : G k nL pc lv (.long y :: .long x :: st) w := by
  obtain ⟨p, l, e, R, s, m, args, below, meth, c, D, ad, A, cells, slots, Q⟩ := k
  obtain ⟨hx, hb, hml, hown, hts, hK, hN, hrm⟩ := C
  intro H locs ls hP hD hS hl
  exact W.lcmp hx hb h0 (lv_if_gt hx hb hd ht (fun q => kt ((lg_cmp_gt x y).mp q) H locs ls hP hD hS hl) (fun q => kf (fun z => q ((lg_cmp_gt x y).mpr z)) H locs ls hP hD hS hl))
theorem G_if_le {k : KX} {cc : ByteArray} {o nL fr lo : Nat} {cy : Nat → ClassId} {pc : Nat} {lv : List (Nat × Value)} {st : List Value} {w : List va_E} (C : OK k cc o nL cy fr lo) {x : Int32} {off : Int} {tgt : Nat} (hd : decode cc pc = .ok (.ifCond .le off, 3)) (ht : (pc : Int) + off = (tgt : Int)) (kt : x ≤ 0 → G k nL tgt lv st w) (kf : ¬ x ≤ 0 → G k nL (pc + 3) lv st w) : G k nL pc lv (.int x :: st) w := by
  obtain ⟨p, l, e, R, s, m, args, below, meth, c, D, ad, A, cells, slots, Q⟩ := k
  obtain ⟨hx, hb, hml, hown, hts, hK, hN, hrm⟩ := C
  intro H locs ls hP hD hS hl
  exact lv_if_le hx hb hd ht (fun q => kt q H locs ls hP hD hS hl) (fun q => kf q H locs ls hP hD hS hl)
theorem G_icmp_le {k : KX} {cc : ByteArray} {o nL fr lo : Nat} {cy : Nat → ClassId} {pc : Nat} {lv : List (Nat × Value)} {st : List Value} {w : List va_E} (C : OK k cc o nL cy fr lo) {x y : Int32} {off : Int} {tgt : Nat} (hd : decode cc pc = .ok (.if_icmp .le off, 3)) (ht : (pc : Int) + off = (tgt : Int)) (kt : x ≤ y → G k nL tgt lv st w) (kf : ¬ x ≤ y → G k nL (pc + 3) lv st w) : G k nL pc lv (.int y :: .int x :: st) w := by
  obtain ⟨p, l, e, R, s, m, args, below, meth, c, D, ad, A, cells, slots, Q⟩ := k
  obtain ⟨hx, hb, hml, hown, hts, hK, hN, hrm⟩ := C
  intro H locs ls hP hD hS hl
  exact lv_icmp_le hx hb hd ht (fun q => kt q H locs ls hP hD hS hl) (fun q => kf q H locs ls hP hD hS hl)
theorem G_lcmp_le {k : KX} {cc : ByteArray} {o nL fr lo : Nat} {cy : Nat → ClassId} {pc : Nat} {lv : List (Nat × Value)} {st : List Value} {w : List va_E} (C : OK k cc o nL cy fr lo) {x y : Int64} {off : Int} {tgt : Nat} (h0 : decode cc pc = .ok (.lcmp, 1)) (hd : decode cc (pc + 1) = .ok (.ifCond .le off, 3)) (ht : ((pc + 1 : Nat) : Int) + off = (tgt : Int)) (kt : x ≤ y → G k nL tgt lv st w) (kf : ¬ x ≤ y → G k nL (pc + 1 + 3) lv st w) : G k nL pc lv (.long y :: .long x :: st) w := by
  obtain ⟨p, l, e, R, s, m, args, below, meth, c, D, ad, A, cells, slots, Q⟩ := k
  obtain ⟨hx, hb, hml, hown, hts, hK, hN, hrm⟩ := C
  intro H locs ls hP hD hS hl
  exact W.lcmp hx hb h0 (lv_if_le hx hb hd ht (fun q => kt ((lg_cmp_le x y).mp q) H locs ls hP hD hS hl) (fun q => kf (fun z => q ((lg_cmp_le x y).mpr z)) H locs ls hP hD hS hl))
theorem G_idiv {k : KX} {cc : ByteArray} {o nL fr lo : Nat} {cy : Nat → ClassId} {pc : Nat} {lv : List (Nat × Value)} {st : List Value} {w : List va_E} (C : OK k cc o nL cy fr lo) {x y : Int32} (hd : decode cc pc = .ok (.idiv, 1)) (hne : ¬ y = 0) (h : G k nL (pc + 1) lv (.int (x / y) :: st) w) : G k nL pc lv (.int y :: .int x :: st) w := by
  obtain ⟨p, l, e, R, s, m, args, below, meth, c, D, ad, A, cells, slots, Q⟩ := k
  obtain ⟨hx, hb, hml, hown, hts, hK, hN, hrm⟩ := C
  intro H locs ls hP hD hS hl
  exact lv_idiv hx hb hd hne (h H locs ls hP hD hS hl)
theorem G_irem {k : KX} {cc : ByteArray} {o nL fr lo : Nat} {cy : Nat → ClassId} {pc : Nat} {lv : List (Nat × Value)} {st : List Value} {w : List va_E} (C : OK k cc o nL cy fr lo) {x y : Int32} (hd : decode cc pc = .ok (.irem, 1)) (hne : ¬ y = 0) (h : G k nL (pc + 1) lv (.int (x - x / y * y) :: st) w) : G k nL pc lv (.int y :: .int x :: st) w := by
  obtain ⟨p, l, e, R, s, m, args, below, meth, c, D, ad, A, cells, slots, Q⟩ := k
  obtain ⟨hx, hb, hml, hown, hts, hK, hN, hrm⟩ := C
  intro H locs ls hP hD hS hl
  exact lv_irem hx hb hd hne (h H locs ls hP hD hS hl)
theorem G_ldiv {k : KX} {cc : ByteArray} {o nL fr lo : Nat} {cy : Nat → ClassId} {pc : Nat} {lv : List (Nat × Value)} {st : List Value} {w : List va_E} (C : OK k cc o nL cy fr lo) {x y : Int64} (hd : decode cc pc = .ok (.ldiv, 1)) (hne : ¬ y = 0) (h : G k nL (pc + 1) lv (.long (x / y) :: st) w) : G k nL pc lv (.long y :: .long x :: st) w := by
  obtain ⟨p, l, e, R, s, m, args, below, meth, c, D, ad, A, cells, slots, Q⟩ := k
  obtain ⟨hx, hb, hml, hown, hts, hK, hN, hrm⟩ := C
  intro H locs ls hP hD hS hl
  exact lv_ldiv hx hb hd hne (h H locs ls hP hD hS hl)
theorem G_lrem {k : KX} {cc : ByteArray} {o nL fr lo : Nat} {cy : Nat → ClassId} {pc : Nat} {lv : List (Nat × Value)} {st : List Value} {w : List va_E} (C : OK k cc o nL cy fr lo) {x y : Int64} (hd : decode cc pc = .ok (.lrem, 1)) (hne : ¬ y = 0) (h : G k nL (pc + 1) lv (.long (x - x / y * y) :: st) w) : G k nL pc lv (.long y :: .long x :: st) w := by
  obtain ⟨p, l, e, R, s, m, args, below, meth, c, D, ad, A, cells, slots, Q⟩ := k
  obtain ⟨hx, hb, hml, hown, hts, hK, hN, hrm⟩ := C
  intro H locs ls hP hD hS hl
  exact lv_lrem hx hb hd hne (h H locs ls hP hD hS hl)
theorem G_iald {k : KX} {cc : ByteArray} {o nL fr lo : Nat} {cy : Nat → ClassId} {pc : Nat} {lv : List (Nat × Value)} {st : List Value} {w : List va_E} (C : OK k cc o nL cy fr lo) {a n : Nat} {f : Nat → Int32} {i : Int32} (hw : w[a]? = some (.inl (cy 0, n, .inl f))) (hin : ¬ (i < 0 ∨ n ≤ i.toNatClampNeg)) (hd : decode cc pc = .ok (.iaload, 1)) (h : G k nL (pc + 1) lv (.int (f i.toNatClampNeg) :: st) w) : G k nL pc lv (.int i :: .ref a :: st) w := by
  obtain ⟨p, l, e, R, s, m, args, below, meth, c, D, ad, A, cells, slots, Q⟩ := k
  obtain ⟨hx, hb, hml, hown, hts, hK, hN, hrm⟩ := C
  intro H locs ls hP hD hS hl
  exact va_iald hx hb hK hP a 0 (wd_at hw) rfl hin hd (h H locs ls hP hD hS hl)
theorem G_bald {k : KX} {cc : ByteArray} {o nL fr lo : Nat} {cy : Nat → ClassId} {pc : Nat} {lv : List (Nat × Value)} {st : List Value} {w : List va_E} (C : OK k cc o nL cy fr lo) {a n : Nat} {f : Nat → Int32} {i : Int32} (hw : w[a]? = some (.inl (cy 2, n, .inl f))) (hin : ¬ (i < 0 ∨ n ≤ i.toNatClampNeg)) (hd : decode cc pc = .ok (.baload, 1)) (h : G k nL (pc + 1) lv (.int (f i.toNatClampNeg) :: st) w) : G k nL pc lv (.int i :: .ref a :: st) w := by
  obtain ⟨p, l, e, R, s, m, args, below, meth, c, D, ad, A, cells, slots, Q⟩ := k
  obtain ⟨hx, hb, hml, hown, hts, hK, hN, hrm⟩ := C
  intro H locs ls hP hD hS hl
  exact va_bald hx hb hK hP a 2 (wd_at hw) rfl hin hd (h H locs ls hP hD hS hl)
theorem G_lald {k : KX} {cc : ByteArray} {o nL fr lo : Nat} {cy : Nat → ClassId} {pc : Nat} {lv : List (Nat × Value)} {st : List Value} {w : List va_E} (C : OK k cc o nL cy fr lo) {a n : Nat} {f : Nat → Int64} {i : Int32} (hw : w[a]? = some (.inl (cy 1, n, .inr (.inl f)))) (hin : ¬ (i < 0 ∨ n ≤ i.toNatClampNeg)) (hd : decode cc pc = .ok (.laload, 1)) (h : G k nL (pc + 1) lv (.long (f i.toNatClampNeg) :: st) w) : G k nL pc lv (.int i :: .ref a :: st) w := by
  obtain ⟨p, l, e, R, s, m, args, below, meth, c, D, ad, A, cells, slots, Q⟩ := k
  obtain ⟨hx, hb, hml, hown, hts, hK, hN, hrm⟩ := C
  intro H locs ls hP hD hS hl
  exact va_lald hx hb hK hP a 1 (wd_at hw) rfl hin hd (h H locs ls hP hD hS hl)
theorem G_iast {k : KX} {cc : ByteArray} {o nL fr lo : Nat} {cy : Nat → ClassId} {pc : Nat} {lv : List (Nat × Value)} {st : List Value} {w : List va_E} (C : OK k cc o nL cy fr lo) {a n : Nat} {f : Nat → Int32} {i : Int32} {x : Int32} {w' : List va_E} (hw : w[a]? = some (.inl (cy 0, n, .inl f))) (hin : ¬ (i < 0 ∨ n ≤ i.toNatClampNeg)) (hd : decode cc pc = .ok (.iastore, 1)) (hw2 : w.set a (.inl (cy 0, n, .inl (upd f i.toNatClampNeg x))) = w') (h : G k nL (pc + 1) lv st w') : G k nL pc lv (.int x :: .int i :: .ref a :: st) w := by
  obtain ⟨p, l, e, R, s, m, args, below, meth, c, D, ad, A, cells, slots, Q⟩ := k
  obtain ⟨hx, hb, hml, hown, hts, hK, hN, hrm⟩ := C
  intro H locs ls hP hD hS hl
  subst hw2
  refine va_iast hx hb hK hP hD hS a 0 (wd_at hw) rfl hin hd (fun H1 locs1 hP1 hD1 hS1 => ?_)
  exact h H1 locs1 ls (by rw [wd_set]; exact hP1) (by rw [wd_set]; exact hD1) hS1 hl
theorem G_bast {k : KX} {cc : ByteArray} {o nL fr lo : Nat} {cy : Nat → ClassId} {pc : Nat} {lv : List (Nat × Value)} {st : List Value} {w : List va_E} (C : OK k cc o nL cy fr lo) {a n : Nat} {f : Nat → Int32} {i : Int32} {x : Int32} {w' : List va_E} (hw : w[a]? = some (.inl (cy 2, n, .inl f))) (hin : ¬ (i < 0 ∨ n ≤ i.toNatClampNeg)) (hd : decode cc pc = .ok (.bastore, 1)) (hw2 : w.set a (.inl (cy 2, n, .inl (upd f i.toNatClampNeg (vp_nar .byte x)))) = w') (h : G k nL (pc + 1) lv st w') : G k nL pc lv (.int x :: .int i :: .ref a :: st) w := by
  obtain ⟨p, l, e, R, s, m, args, below, meth, c, D, ad, A, cells, slots, Q⟩ := k
  obtain ⟨hx, hb, hml, hown, hts, hK, hN, hrm⟩ := C
  intro H locs ls hP hD hS hl
  subst hw2
  refine va_bast hx hb hK hP hD hS a 2 (wd_at hw) rfl hin hd (fun H1 locs1 hP1 hD1 hS1 => ?_)
  exact h H1 locs1 ls (by rw [wd_set]; exact hP1) (by rw [wd_set]; exact hD1) hS1 hl
theorem G_last {k : KX} {cc : ByteArray} {o nL fr lo : Nat} {cy : Nat → ClassId} {pc : Nat} {lv : List (Nat × Value)} {st : List Value} {w : List va_E} (C : OK k cc o nL cy fr lo) {a n : Nat} {f : Nat → Int64} {i : Int32} {x : Int64} {w' : List va_E} (hw : w[a]? = some (.inl (cy 1, n, .inr (.inl f)))) (hin : ¬ (i < 0 ∨ n ≤ i.toNatClampNeg)) (hd : decode cc pc = .ok (.lastore, 1)) (hw2 : w.set a (.inl (cy 1, n, .inr (.inl (vp_updL f i.toNatClampNeg x)))) = w') (h : G k nL (pc + 1) lv st w') : G k nL pc lv (.long x :: .int i :: .ref a :: st) w := by
  obtain ⟨p, l, e, R, s, m, args, below, meth, c, D, ad, A, cells, slots, Q⟩ := k
  obtain ⟨hx, hb, hml, hown, hts, hK, hN, hrm⟩ := C
  intro H locs ls hP hD hS hl
  subst hw2
  refine va_last hx hb hK hP hD hS a 1 (wd_at hw) rfl hin hd (fun H1 locs1 hP1 hD1 hS1 => ?_)
  exact h H1 locs1 ls (by rw [wd_set]; exact hP1) (by rw [wd_set]; exact hD1) hS1 hl
theorem G_alen {k : KX} {cc : ByteArray} {o nL fr lo : Nat} {cy : Nat → ClassId} {pc : Nat} {lv : List (Nat × Value)} {st : List Value} {w : List va_E} (C : OK k cc o nL cy fr lo) {a : Nat} {x : vp_A} {t0 : Nat} {ty : FieldType} {cA : ClassId} (hw : w[a]? = some (.inl (cA, x))) (ht : (tysOf cy)[t0]? = some (cA, ty)) {v : Int32} (hv : Int32.ofNat x.1 = v) (hd : decode cc pc = .ok (.arraylength, 1)) (h : G k nL (pc + 1) lv (.int v :: st) w) : G k nL pc lv (.ref a :: st) w := by
  obtain ⟨p, l, e, R, s, m, args, below, meth, c, D, ad, A, cells, slots, Q⟩ := k
  obtain ⟨hx, hb, hml, hown, hts, hK, hN, hrm⟩ := C
  intro H locs ls hP hD hS hl
  exact va_alen hx hb hK hP a t0 (wd_at hw) ht hv hd (h H locs ls hP hD hS hl)
theorem G_putZ {k : KX} {cc : ByteArray} {o nL fr lo : Nat} {cy : Nat → ClassId} {pc : Nat} {lv : List (Nat × Value)} {st : List Value} {w : List va_E} (C : OK k cc o nL cy fr lo) {idx ci kf a : Nat} {fs : List Value} {b : Bool} {w' : List va_E} (hf : (o, idx, ci, kf) ∈ flL) (hw : w[a]? = some (.inr (ci, fs))) (hlt : kf < fs.length) (hty : tyN ci kf = .boolean) (hfin : ((clN ci).2.1 kf).2.2.2 = false) (hd : decode cc pc = .ok (.putfield idx, 3)) (hw2 : w.set a (.inr (ci, fs.set kf (.int (bI b)))) = w') (h : G k nL (pc + 3) lv st w') : G k nL pc lv (.int (bI b) :: .ref a :: st) w := by
  obtain ⟨p, l, e, R, s, m, args, below, meth, c, D, ad, A, cells, slots, Q⟩ := k
  obtain ⟨hx, hb, hml, hown, hts, hK, hN, hrm⟩ := C
  intro H locs ls hP hD hS hl
  have hf := fl_ok hf
  subst hw2
  have hlt' : kf < (fs.map (reV ad)).length := by rw [List.length_map]; exact hlt
  refine va_put (C := (clN ci).1) (T := (clN ci).2.1) (N := (clN ci).2.2) (ty := .boolean) (v := .int (bI b)) hx hb hts (cl_in ci hf.2.1) (tyN ci) (cl_ty ci hf.2.1) (cl_nm ci hf.2.1) hown hK hP hD hS a (wd_at hw) (cl_at ci hf.2.1) kf hf.2.2 (hts _ hf.1) (fun _ q => q) hfin (by rw [cl_ty ci hf.2.1 kf hf.2.2, hty]) (bI_nar b) (bI_fit b) hlt' hd (fun H1 locs1 hP1 hD1 hS1 => ?_)
  have e2 : wd ad (w.set a (.inr (ci, fs.set kf (.int (bI b))))) = (wd ad w).set a (ad a, .inr (ci, (fs.map (reV ad)).set kf (.int (bI b)))) := by
    rw [wd_set]
    show _ = (wd ad w).set a (ad a, .inr (ci, (fs.map (reV ad)).set kf (reV ad (.int (bI b)))))
    rw [← List.map_set]
    rfl
  exact h H1 locs1 ls (by rw [e2]; exact hP1) (by rw [e2]; exact hD1) hS1 hl
theorem G_ldc {k : KX} {cc : ByteArray} {o nL fr lo : Nat} {cy : Nat → ClassId} {pc : Nat} {lv : List (Nat × Value)} {st : List Value} {w : List va_E} (C : OK k cc o nL cy fr lo) {idx : Nat} {v : Int32} (hc : Cond.constant (ownN o) idx v ∈ tbl) (hd : decode cc pc = .ok (.ldc idx, 2)) (h : G k nL (pc + 2) lv (.int v :: st) w) : G k nL pc lv st w := by
  obtain ⟨p, l, e, R, s, m, args, below, meth, c, D, ad, A, cells, slots, Q⟩ := k
  obtain ⟨hx, hb, hml, hown, hts, hK, hN, hrm⟩ := C
  intro H locs ls hP hD hS hl
  exact lv_ldc hx hb hown (hts _ hc) hd (h H locs ls hP hD hS hl)
theorem G_ldcw {k : KX} {cc : ByteArray} {o nL fr lo : Nat} {cy : Nat → ClassId} {pc : Nat} {lv : List (Nat × Value)} {st : List Value} {w : List va_E} (C : OK k cc o nL cy fr lo) {idx : Nat} {v : Int32} (hc : Cond.constant (ownN o) idx v ∈ tbl) (hd : decode cc pc = .ok (.ldc_w idx, 3)) (h : G k nL (pc + 3) lv (.int v :: st) w) : G k nL pc lv st w := by
  obtain ⟨p, l, e, R, s, m, args, below, meth, c, D, ad, A, cells, slots, Q⟩ := k
  obtain ⟨hx, hb, hml, hown, hts, hK, hN, hrm⟩ := C
  intro H locs ls hP hD hS hl
  exact lv_ldcw hx hb hown (hts _ hc) hd (h H locs ls hP hD hS hl)
theorem G_ldc2 {k : KX} {cc : ByteArray} {o nL fr lo : Nat} {cy : Nat → ClassId} {pc : Nat} {lv : List (Nat × Value)} {st : List Value} {w : List va_E} (C : OK k cc o nL cy fr lo) {idx : Nat} {v : Int64} (hc : Cond.constantLong (ownN o) idx v ∈ tbl) (hd : decode cc pc = .ok (.ldc2_w idx, 3)) (h : G k nL (pc + 3) lv (.long v :: st) w) : G k nL pc lv st w := by
  obtain ⟨p, l, e, R, s, m, args, below, meth, c, D, ad, A, cells, slots, Q⟩ := k
  obtain ⟨hx, hb, hml, hown, hts, hK, hN, hrm⟩ := C
  intro H locs ls hP hD hS hl
  exact lv_ldc2 hx hb hown (hts _ hc) hd (h H locs ls hP hD hS hl)
theorem G_tabIn {k : KX} {cc : ByteArray} {o nL fr lo : Nat} {cy : Nat → ClassId} {pc : Nat} {lv : List (Nat × Value)} {st : List Value} {w : List va_E} (C : OK k cc o nL cy fr lo) {dflt lo1 hi : Int} {offs : Array Int} {len : Nat} {x v : Int32} {off : Int} {tgt : Nat} (hd : decode cc pc = .ok (.tableswitch dflt lo1 hi offs, len)) (hv : x = v) (h1 : ¬ v.toInt < lo1) (h2 : ¬ hi < v.toInt) (ho : offs[(v.toInt - lo1).toNat]? = some off) (ht : (pc : Int) + off = (tgt : Int)) (h : G k nL tgt lv st w) : G k nL pc lv (.int x :: st) w := by
  obtain ⟨p, l, e, R, s, m, args, below, meth, c, D, ad, A, cells, slots, Q⟩ := k
  obtain ⟨hx, hb, hml, hown, hts, hK, hN, hrm⟩ := C
  intro H locs ls hP hD hS hl
  subst hv
  exact lv_tableIn hx hb hd h1 h2 ho ht (h H locs ls hP hD hS hl)
theorem G_tabOut {k : KX} {cc : ByteArray} {o nL fr lo : Nat} {cy : Nat → ClassId} {pc : Nat} {lv : List (Nat × Value)} {st : List Value} {w : List va_E} (C : OK k cc o nL cy fr lo) {dflt lo1 hi : Int} {offs : Array Int} {len : Nat} {x : Int32} {tgt : Nat} (hd : decode cc pc = .ok (.tableswitch dflt lo1 hi offs, len)) (h1 : x.toInt < lo1 ∨ hi < x.toInt) (ht : (pc : Int) + dflt = (tgt : Int)) (h : G k nL tgt lv st w) : G k nL pc lv (.int x :: st) w := by
  obtain ⟨p, l, e, R, s, m, args, below, meth, c, D, ad, A, cells, slots, Q⟩ := k
  obtain ⟨hx, hb, hml, hown, hts, hK, hN, hrm⟩ := C
  intro H locs ls hP hD hS hl
  exact lv_tableOut hx hb hd h1 ht (h H locs ls hP hD hS hl)
theorem G_lkIn {k : KX} {cc : ByteArray} {o nL fr lo : Nat} {cy : Nat → ClassId} {pc : Nat} {lv : List (Nat × Value)} {st : List Value} {w : List va_E} (C : OK k cc o nL cy fr lo) {dflt : Int} {ps : Array (Int × Int)} {len : Nat} {x v : Int32} {off : Int} {tgt : Nat} (hd : decode cc pc = .ok (.lookupswitch dflt ps, len)) (hp : (ps.toList.zip (ps.toList.drop 1)).all (fun (a, next) => a.1 < next.1) = true) (hv : x = v) (ho : Op.lookupswitch.offset ps.toList dflt v.toInt = off) (ht : (pc : Int) + off = (tgt : Int)) (h : G k nL tgt lv st w) : G k nL pc lv (.int x :: st) w := by
  obtain ⟨p, l, e, R, s, m, args, below, meth, c, D, ad, A, cells, slots, Q⟩ := k
  obtain ⟨hx, hb, hml, hown, hts, hK, hN, hrm⟩ := C
  intro H locs ls hP hD hS hl
  subst hv
  exact lv_lookup hx hb hd hp ho ht (h H locs ls hP hD hS hl)
theorem G_lkOut {k : KX} {cc : ByteArray} {o nL fr lo : Nat} {cy : Nat → ClassId} {pc : Nat} {lv : List (Nat × Value)} {st : List Value} {w : List va_E} (C : OK k cc o nL cy fr lo) {dflt : Int} {ps : Array (Int × Int)} {len : Nat} {x : Int32} {tgt : Nat} (hd : decode cc pc = .ok (.lookupswitch dflt ps, len)) (hp : (ps.toList.zip (ps.toList.drop 1)).all (fun (a, next) => a.1 < next.1) = true) (ho : Op.lookupswitch.offset ps.toList dflt x.toInt = dflt) (ht : (pc : Int) + dflt = (tgt : Int)) (h : G k nL tgt lv st w) : G k nL pc lv (.int x :: st) w := by
  obtain ⟨p, l, e, R, s, m, args, below, meth, c, D, ad, A, cells, slots, Q⟩ := k
  obtain ⟨hx, hb, hml, hown, hts, hK, hN, hrm⟩ := C
  intro H locs ls hP hD hS hl
  exact lv_lookup hx hb hd hp ho ht (h H locs ls hP hD hS hl)
theorem neT {x v : Int32} (h : ¬ x = v) : ¬ x.toInt = v.toInt := fun q => h (Int32.toInt_inj.mp q)
theorem oob {α : Type} {P : Prop} [Decidable P] {a : Option α} {r : α} (h : (if P then none else a) = some r) : ¬ P ∧ a = some r := by
  by_cases c : P
  · rw [if_pos c] at h; cases h
  · rw [if_neg c] at h; exact ⟨c, h⟩
theorem obd {α β : Type} {x : Option α} {f : α → Option β} {b : β} (h : x.bind f = some b) : ∃ a, x = some a ∧ f a = some b := by
  cases x with
  | none => cases h
  | some a => exact ⟨a, rfl, h⟩
def rl (ρ : List Nat) (i : Nat) : Nat := ρ.getD i 0
def putW : List va_E → List Nat → List va_E → List va_E
  | w, i :: ρ, c :: cs => putW (w.set i c) ρ cs
  | w, _, _ => w
theorem putW_len : ∀ (ρ : List Nat) (cs w : List va_E), (putW w ρ cs).length = w.length
  | [], cs, w => by cases cs <;> rfl
  | i :: ρ, [], w => rfl
  | i :: ρ, c :: cs, w => by rw [putW, putW_len ρ cs, List.length_set]
theorem putW_out : ∀ (ρ : List Nat) (cs w : List va_E) (i : Nat), (∀ j, j < cs.length → ρ[j]? ≠ some i) → (putW w ρ cs)[i]? = w[i]?
  | [], cs, w, i, _ => by cases cs <;> rfl
  | a :: ρ, [], w, i, _ => rfl
  | a :: ρ, c :: cs, w, i, h => by
    rw [putW, putW_out ρ cs (w.set a c) i (fun j hj => by have := h (j + 1) (by rw [List.length_cons]; omega); rwa [List.getElem?_cons_succ] at this)]
    have h0 : a ≠ i := fun q => h 0 (by rw [List.length_cons]; omega) (by rw [List.getElem?_cons_zero, q])
    exact List.getElem?_set_ne h0
theorem putW_in : ∀ (ρ : List Nat) (cs w : List va_E) (j i : Nat) (c : va_E), va_nd (ρ.take cs.length) = true → ρ[j]? = some i → cs[j]? = some c → i < w.length → (putW w ρ cs)[i]? = some c
  | [], cs, w, j, i, c, _, h, _, _ => by simp at h
  | a :: ρ, [], w, j, i, c, _, _, h, _ => by simp at h
  | a :: ρ, d :: cs, w, 0, i, c, hn, h1, h2, hl => by
    rw [List.getElem?_cons_zero] at h1 h2
    cases h1
    cases h2
    rw [putW]
    have hn2 : (decide (a ∉ ρ.take cs.length) && va_nd (ρ.take cs.length)) = true := hn
    rw [Bool.and_eq_true] at hn2
    have hni := of_decide_eq_true hn2.1
    rw [putW_out ρ cs (w.set a d) a (fun j hj q => hni (List.mem_of_getElem? (i := j) (by rw [List.getElem?_take, if_pos hj]; exact q)))]
    rw [List.getElem?_set_self hl]
  | a :: ρ, d :: cs, w, j + 1, i, c, hn, h1, h2, hl => by
    rw [List.getElem?_cons_succ] at h1 h2
    have hn2 : (decide (a ∉ ρ.take cs.length) && va_nd (ρ.take cs.length)) = true := hn
    rw [Bool.and_eq_true] at hn2
    rw [putW]
    exact putW_in ρ cs (w.set a d) j i c hn2.2 h1 h2 (by rw [List.length_set]; exact hl)
/-- the words of a call -/
def LkV (o idx : Nat) (y : MethodName) (bytes : ByteArray) (maxL n : Nat) (ret : Option FieldType) : Prop := Cond.methodLink (ownN o) idx y ∈ tbl ∧ Cond.instanceMethod y ∈ tbl ∧ Cond.selects y.cls y y ∈ tbl ∧ Cond.initialized y.cls ∈ tbl ∧ Cond.code y bytes maxL ret ∈ tbl ∧ y.cls ≠ "java/lang/invoke/MethodHandle" ∧ y.cls ≠ "java/lang/invoke/VarHandle" ∧ (parseMethodDescriptor y.desc).map (fun d => d.parameters.length) = some n
def LkS (o idx : Nat) (y : MethodName) (bytes : ByteArray) (maxL n : Nat) (ret : Option FieldType) : Prop := Cond.methodLink (ownN o) idx y ∈ tbl ∧ Cond.static y ∈ tbl ∧ Cond.initialized y.cls ∈ tbl ∧ Cond.code y bytes maxL ret ∈ tbl ∧ y.cls ≠ "java/lang/invoke/MethodHandle" ∧ y.cls ≠ "java/lang/invoke/VarHandle" ∧ (parseMethodDescriptor y.desc).map (fun d => d.parameters.length) = some n
def LkN (o idx : Nat) (y : MethodName) (bytes : ByteArray) (maxL n : Nat) (ret : Option FieldType) : Prop := (ownN o, idx, y, RX6) ∈ nestL ∧ Cond.static y ∈ tbl ∧ Cond.initialized y.cls ∈ tbl ∧ Cond.code y bytes maxL ret ∈ tbl ∧ y.cls ≠ "java/lang/invoke/MethodHandle" ∧ y.cls ≠ "java/lang/invoke/VarHandle" ∧ (parseMethodDescriptor y.desc).map (fun d => d.parameters.length) = some n
section QC
variable {p : Program} {l : Launch} {e : Env} {R : Room} {s : State} {m : MethodId} {args : Array Value} {below : List Frame} {meth : Method} {c : Code} {H : Heap} {locs : List Loc} {cells slots : Nat} {Q : State → Prop} {D : va_G} {cy : Nat → ClassId} {A A1 : Nat → Prop} {ad : Nat → Nat}
theorem q_call {pc : Nat} {ls : Array Slot} {rest st0 : List Value} {a : Array Value} {H0 : Heap} {V : Option Value} {wc' : List va_E} {ad1 : Nat → Nat} (hr : va_Run p l e R s m args below meth c H locs cells slots 0 0 (F0 m pc ls st0) rest (QG D cy ad1 A1 V wc' a) A1) (hS : va_S A H0 H locs) (hA : ∀ q, A1 q → A q)
    (kk : ∀ (H1 : Heap) (locs1 : List Loc), va_P D classes (wd ad1 wc') H1 → va_D A1 (wd ad1 wc') → H.size ≤ H1.size → (∀ q : Nat, q < H.size → ¬ A1 q → H1[q]? = H[q]?) → va_S A H0 H1 locs1 → W p l e R s m args below meth c H1 locs1 cells slots Q (F0 m (pc + 3) ls ((V.map (reV ad1)).toList ++ rest))) : W p l e R s m args below meth c H locs cells slots Q (F0 m pc ls st0) := by
  intro T hT X
  obtain ⟨v, st₀, t, T', L, h0, X', hL, e1, e2, ⟨⟨hv, hP1, hK1, hD1⟩, hz, hk⟩, st⟩ := hr T hT X
  cases hv
  rw [h0] at hz hk
  obtain ⟨t2, a1, b1⟩ := kk T'.heap (locs ++ L) (by rw [e1]; exact hP1) hD1 (by rw [e1]; exact hz) (fun q h1 h2 => by rw [e1]; exact hk q h1 h2)
    ⟨Nat.le_trans hS.1 (by rw [e1]; exact hz), fun q h1 h2 => by rw [e1, hk q (Nat.lt_of_lt_of_le h1 hS.1) (fun z => h2 (hA q z))]; exact hS.2.1 q h1 h2, fun q hq => by
      rcases List.mem_append.mp hq with h | h
      · exact hS.2.2 q h
      · exact hA _ (hL q h)⟩ T' rfl X'
  exact ⟨t2, st t2 a1, b1⟩
/-- the callee's cells of the caller's world -/
theorem q_at {ρ : List Nat} {w wc : List va_E} (hw : (ρ.take wc.length).map (fun i => w[i]?) = wc.map (fun c => some (reE (rl ρ) c))) {j : Nat} {cj : va_E} (h : wc[j]? = some cj) : ρ[j]? = some (rl ρ j) ∧ w[rl ρ j]? = some (reE (rl ρ) cj) := by
  have hj : j < wc.length := (List.getElem?_eq_some_iff.mp h).1
  have h1 : ((ρ.take wc.length).map (fun i => w[i]?))[j]? = some (some (reE (rl ρ) cj)) := by rw [hw, List.getElem?_map, h]; rfl
  rw [List.getElem?_map, List.getElem?_take, if_pos hj] at h1
  cases hr : ρ[j]? with
  | none => rw [hr] at h1; cases h1
  | some i =>
    have e : rl ρ j = i := by unfold rl; rw [List.getD_eq_getElem?_getD, hr]; rfl
    rw [hr] at h1
    rw [e]
    exact ⟨rfl, Option.some.inj h1⟩
theorem q_pre {ρ : List Nat} {w wc : List va_E} (hw : (ρ.take wc.length).map (fun i => w[i]?) = wc.map (fun c => some (reE (rl ρ) c))) (hnd : va_nd (ρ.take wc.length) = true) (hP : va_P D classes (wd ad w) H) (hD : va_D A (wd ad w)) :
    va_P D classes (wd (fun j => ad (rl ρ j)) wc) H ∧ va_D (fun q => ∃ j, j < wc.length ∧ q = ad (rl ρ j)) (wd (fun j => ad (rl ρ j)) wc) := by
  have key : ∀ (j : Nat) (q : Nat × va_E), (wd (fun j => ad (rl ρ j)) wc)[j]? = some q → j < wc.length ∧ ρ[j]? = some (rl ρ j) ∧ q.1 = ad (rl ρ j) ∧ (wd ad w)[rl ρ j]? = some q := by
    intro j q hq
    obtain ⟨cj, h1, rfl⟩ := wd_of hq
    obtain ⟨h2, h3⟩ := q_at hw h1
    refine ⟨(List.getElem?_eq_some_iff.mp h1).1, h2, rfl, ?_⟩
    rw [wd_at h3, reE_comp]
  refine ⟨fun j q hq => hP _ q (key j q hq).2.2.2, ⟨fun i j x y hi hj hxy => ?_, fun j q hq => ⟨j, (key j q hq).1, (key j q hq).2.2.1⟩⟩⟩
  obtain ⟨a1, a2, -, a4⟩ := key i x hi
  obtain ⟨b1, b2, -, b4⟩ := key j y hj
  have e := hD.1 _ _ x y a4 b4 hxy
  rw [e] at a2
  exact va_nd_inj _ hnd i j (rl ρ j) (by rw [List.getElem?_take, if_pos a1]; exact a2) (by rw [List.getElem?_take, if_pos b1]; exact b2)
theorem q_post {ρ : List Nat} {w wc wc' w' : List va_E} {H1 : Heap} (hw : (ρ.take wc.length).map (fun i => w[i]?) = wc.map (fun c => some (reE (rl ρ) c))) (hnd : va_nd (ρ.take wc.length) = true) (hlen : wc'.length = wc.length) (hw' : putW w ρ (wc'.map (reE (rl ρ))) = w') (hP : va_P D classes (wd ad w) H) (hD : va_D A (wd ad w))
    (hP1 : va_P D classes (wd (fun j => ad (rl ρ j)) wc') H1) (hk : ∀ q : Nat, q < H.size → ¬ (∃ j, j < wc.length ∧ q = ad (rl ρ j)) → H1[q]? = H[q]?) : va_P D classes (wd ad w') H1 ∧ va_D A (wd ad w') := by
  subst hw'
  have hl2 : (wc'.map (reE (rl ρ))).length = wc.length := by rw [List.length_map, hlen]
  refine ⟨fun i q hq => ?_, ⟨fun i j x y hi hj hxy => ?_, fun i q hq => ?_⟩⟩
  · by_cases hx : ∃ j, j < wc.length ∧ ρ[j]? = some i
    · obtain ⟨j, hj, hr⟩ := hx
      have hj' : j < wc'.length := by rw [hlen]; exact hj
      have e : rl ρ j = i := by unfold rl; rw [List.getD_eq_getElem?_getD, hr]; rfl
      obtain ⟨-, hwi⟩ := q_at hw (List.getElem?_eq_getElem hj)
      have hil : i < w.length := by rw [← e]; exact (List.getElem?_eq_some_iff.mp hwi).1
      have h1 := putW_in ρ (wc'.map (reE (rl ρ))) w j i (reE (rl ρ) wc'[j]) (by rw [hl2]; exact hnd) hr (by rw [List.getElem?_map, List.getElem?_eq_getElem hj']; rfl) hil
      rw [wd_at h1] at hq
      have e2 : q = (ad (rl ρ j), reE (fun j => ad (rl ρ j)) wc'[j]) := by rw [← Option.some.inj hq, reE_comp, e]
      exact hP1 j q (by rw [wd_at (List.getElem?_eq_getElem hj'), e2])
    · obtain ⟨ci, h1, rfl⟩ := wd_of hq
      rw [putW_out ρ (wc'.map (reE (rl ρ))) w i (fun j hj q => hx ⟨j, by rw [← hl2]; exact hj, q⟩)] at h1
      have h2 := hP i _ (wd_at h1)
      refine h2.kept (hk _ h2.lt (fun ⟨j, hj, q⟩ => hx ⟨j, hj, ?_⟩))
      obtain ⟨h3, h4⟩ := q_at hw (List.getElem?_eq_getElem hj)
      rw [h3, hD.1 _ _ _ _ (wd_at h1) (wd_at h4) q]
  · obtain ⟨c1, h1, rfl⟩ := wd_of hi
    obtain ⟨c2, h2, rfl⟩ := wd_of hj
    have l1 := (List.getElem?_eq_some_iff.mp h1).1
    have l2 := (List.getElem?_eq_some_iff.mp h2).1
    rw [putW_len] at l1 l2
    exact hD.1 i j _ _ (wd_at (List.getElem?_eq_getElem l1)) (wd_at (List.getElem?_eq_getElem l2)) hxy
  · obtain ⟨c1, h1, rfl⟩ := wd_of hq
    have l1 := (List.getElem?_eq_some_iff.mp h1).1
    rw [putW_len] at l1
    exact (hD.2 i (ad i, reE ad w[i]) (wd_at (List.getElem?_eq_getElem l1)) : A (ad i))
theorem q_blind {As : List Value} {wc : List va_E} {ad1 : Nat → Nat} : FrameBlind (va_Pc (As.map (reV ad1)) (fun U => va_P D classes (wd ad1 wc) U.heap ∧ va_K D classes (tysOf cy) U ∧ va_D A (wd ad1 wc) ∧ NW U)) := fun a U g mk q => by
  obtain ⟨q0, qP, qK, qD, qN⟩ := q
  exact ⟨q0, qP, va_K.moved (u := U) (U := U.calling g mk a) (Vm.Alike.refl U.vm) qK, qD, NW.same (U := U.calling g mk a) rfl qN⟩
end QC
theorem st_cat (ad : Nat → Nat) (rest : List Value) : ((rest.map (reV ad)).map fun v => v.category) = rest.map fun v => v.category := by
  rw [List.map_map]
  congr 1
  funext v
  exact reV_cat ad v
theorem V_comp (ad : Nat → Nat) (ρ : List Nat) (V : Option Value) (rest : List Value) : (V.map (reV fun j => ad (rl ρ j))).toList ++ rest.map (reV ad) = ((V.map (reV (rl ρ))).toList ++ rest).map (reV ad) := by
  cases V with
  | none => rfl
  | some v => show reV _ v :: _ = reV ad (reV (rl ρ) v) :: _; rw [reV_comp]; rfl
theorem As_comp (ad : Nat → Nat) (ρ : List Nat) (As : List Value) (r : List Value) : ((As.map (reV (rl ρ))).reverse ++ r).map (reV ad) = (As.map (reV fun j => ad (rl ρ j))).reverse ++ r.map (reV ad) := by
  rw [List.map_append, List.map_reverse, List.map_map]
  congr 3
  funext v
  exact reV_comp ad (rl ρ) v
theorem G_callV {k : KX} {cc : ByteArray} {o nL fr lo : Nat} {cy : Nat → ClassId} {pc : Nat} {lv : List (Nat × Value)} {w : List va_E} (C : OK k cc o nL cy fr lo) {idx : Nat} {y : MethodName} {bytes : ByteArray} {maxL n : Nat} {ret : Option FieldType} {fr' lo' : Nat} (L : LkV o idx y bytes maxL n ret) (hroom : fr' + 1 ≤ fr ∧ 8 + (maxL + 11) + lo' ≤ lo) (hd : decode cc pc = .ok (.invokevirtual idx, 3))
    (ρ : List Nat) {As : List Value} {wc wc' : List va_E} {V : Option Value} {ci : Nat} {fs : List Value} {rest st : List Value} {w' : List va_E} (hM : MG cy y bytes maxL ret fr' lo' (.ref 0 :: As) wc V wc') (hst : st = (As.map (reV (rl ρ))).reverse ++ .ref (rl ρ 0) :: rest) (hn : As.length = n) (hcat : (rest.map fun v => v.category).sum ≤ 8)
    (hw : (ρ.take wc.length).map (fun i => w[i]?) = wc.map (fun c => some (reE (rl ρ) c))) (hnd : va_nd (ρ.take wc.length) = true) (hr : wc[0]? = some (.inr (ci, fs)) ∧ (classes[ci]?).map (fun q => q.1) = some y.cls) (hlen : wc'.length = wc.length) (hw' : putW w ρ (wc'.map (reE (rl ρ))) = w')
    (h : G k nL (pc + 3) lv ((V.map (reV (rl ρ))).toList ++ rest) w') : G k nL pc lv st w := by
  obtain ⟨p, l, e, R, s, m, args, below, meth, c, D, ad, A, cells, slots, Q⟩ := k
  obtain ⟨hx, hb, hml, hown, hts, hK, hN, hrm, hce, hsl⟩ := C
  obtain ⟨l1, l2, l3, l4, l5, l6, l7, l8⟩ := L
  intro H locs ls hP hD hS hl
  obtain ⟨hPc, hDc⟩ := q_pre hw hnd hP hD
  subst hst
  have hA : ∀ q, (∃ j, j < wc.length ∧ q = ad (rl ρ j)) → A q := by
    rintro q ⟨j, hj, rfl⟩
    exact hD.2 _ _ (wd_at (q_at hw (List.getElem?_eq_getElem hj)).2)
  have hcw : CallW R s args (ownN o) y.cls idx y bytes maxL ret (Cond.code y bytes maxL ret :: tbl) { frames := fr', cells := 0, slots := 0, locals := lo' } 0 0 n :=
    ⟨callB_of n hts (tb_goodc l5) rfl rfl rfl (hts _ l4) (hts _ l1) ⟨l6, l7, l8⟩ ⟨Nat.le_trans hroom.1 hrm.1, Nat.le_trans hroom.2 hrm.2⟩, hts _ l2, hts _ l3⟩
  obtain ⟨qc, hqc, hqn⟩ : ∃ qc, classes[ci]? = some qc ∧ qc.1 = y.cls := by
    have h2 := hr.2
    cases hq : classes[ci]? with
    | none => rw [hq] at h2; cases h2
    | some qc => rw [hq] at h2; exact ⟨qc, rfl, Option.some.inj h2⟩
  refine q_call (va_runV (As := As.map (reV fun j => ad (rl ρ j))) (b := ad (rl ρ 0)) (rest := rest.map (reV ad)) ⟨hx, hb, hml, hown, hts⟩ (hM l D (fun j => ad (rl ρ j)) (fun q => ∃ j, j < wc.length ∧ q = ad (rl ρ j))) hcw ⟨q_blind, ?_, fun U hU hW => ⟨rfl, by rw [hU]; exact hPc, va_K.moved hW.alike hK, hDc, hN.warm hW⟩⟩ rfl (by rw [List.length_map]; exact hn) hl.1 ?_ (lv_room (by rw [st_cat]; exact hcat)) hd ⟨hce, hsl⟩) hS hA (fun H1 locs1 hP1 hDx hz hk hS1 => ?_)
  · rw [← hqn]
    exact va_recv hK hPc hqc (wd_at hr.1)
  · show List.map (reV ad) _ = _
    rw [As_comp]
    rfl
  · obtain ⟨hP2, hD2⟩ := q_post hw hnd hlen hw' hP hD hP1 hk
    rw [V_comp]
    exact h H1 locs1 ls hP2 hD2 hS1 hl
theorem G_callS {k : KX} {cc : ByteArray} {o nL fr lo : Nat} {cy : Nat → ClassId} {pc : Nat} {lv : List (Nat × Value)} {w : List va_E} (C : OK k cc o nL cy fr lo) {idx : Nat} {y : MethodName} {bytes : ByteArray} {maxL n : Nat} {ret : Option FieldType} {fr' lo' : Nat} (L : LkS o idx y bytes maxL n ret) (hroom : fr' + 1 ≤ fr ∧ 8 + (maxL + 11) + lo' ≤ lo) (hd : decode cc pc = .ok (.invokestatic idx, 3))
    {As : List Value} {V : Option Value} {rest st : List Value} (hM : MG cy y bytes maxL ret fr' lo' As [] V []) (hst : st = (As.map (reV (rl []))).reverse ++ rest) (hn : As.length = n) (hcat : (rest.map fun v => v.category).sum ≤ 8)
    (h : G k nL (pc + 3) lv ((V.map (reV (rl []))).toList ++ rest) w) : G k nL pc lv st w := by
  obtain ⟨p, l, e, R, s, m, args, below, meth, c, D, ad, A, cells, slots, Q⟩ := k
  obtain ⟨hx, hb, hml, hown, hts, hK, hN, hrm, hce, hsl⟩ := C
  obtain ⟨l1, l2, l4, l5, l6, l7, l8⟩ := L
  intro H locs ls hP hD hS hl
  have hw : (([] : List Nat).take ([] : List va_E).length).map (fun i => w[i]?) = ([] : List va_E).map (fun c => some (reE (rl []) c)) := rfl
  obtain ⟨hPc, hDc⟩ := q_pre (ad := ad) hw rfl hP hD
  subst hst
  have hA : ∀ q, (∃ j, j < ([] : List va_E).length ∧ q = ad (rl [] j)) → A q := by
    rintro q ⟨j, hj, rfl⟩
    exact absurd hj (Nat.not_lt_zero j)
  refine q_call (va_runS (As := As.map (reV fun j => ad (rl [] j))) (rest := rest.map (reV ad)) ⟨hx, hb, hml, hown, hts⟩ (hM l D (fun j => ad (rl [] j)) (fun q => ∃ j, j < ([] : List va_E).length ∧ q = ad (rl [] j))) ⟨callB_of n hts (tb_goodc l5) rfl rfl rfl (hts _ l4) (hts _ l1) ⟨l6, l7, l8⟩ ⟨Nat.le_trans hroom.1 hrm.1, Nat.le_trans hroom.2 hrm.2⟩, hts _ l2⟩ ⟨q_blind, fun U hU hW => ⟨rfl, by rw [hU]; exact hPc, va_K.moved hW.alike hK, hDc, hN.warm hW⟩⟩ rfl (by rw [List.length_map]; exact hn) hl.1 ?_ (lv_room (by rw [st_cat]; exact hcat)) hd ⟨hce, hsl⟩) hS hA (fun H1 locs1 hP1 hDx hz hk hS1 => ?_)
  · show List.map (reV ad) _ = _
    rw [As_comp]
  · obtain ⟨hP2, hD2⟩ := q_post (w' := w) hw rfl rfl rfl hP hD hP1 hk
    rw [V_comp]
    exact h H1 locs1 ls hP2 hD2 hS1 hl
theorem G_callN {k : KX} {cc : ByteArray} {o nL fr lo : Nat} {cy : Nat → ClassId} {pc : Nat} {lv : List (Nat × Value)} {w : List va_E} (C : OK k cc o nL cy fr lo) {idx : Nat} {y : MethodName} {bytes : ByteArray} {maxL n : Nat} {ret : Option FieldType} {fr' lo' : Nat} (L : LkN o idx y bytes maxL n ret) (hroom : fr' + 1 ≤ fr ∧ 8 + (maxL + 11) + lo' ≤ lo) (hd : decode cc pc = .ok (.invokestatic idx, 3))
    {As : List Value} {V : Option Value} {rest st : List Value} (hM : MG cy y bytes maxL ret fr' lo' As [] V []) (hst : st = (As.map (reV (rl []))).reverse ++ rest) (hn : As.length = n) (hcat : (rest.map fun v => v.category).sum ≤ 8)
    (h : G k nL (pc + 3) lv ((V.map (reV (rl []))).toList ++ rest) w) : G k nL pc lv st w := by
  obtain ⟨p, l, e, R, s, m, args, below, meth, c, D, ad, A, cells, slots, Q⟩ := k
  obtain ⟨hx, hb, hml, hown, hts, hK, hN, hrm, hce, hsl⟩ := C
  obtain ⟨l1, l2, l4, l5, l6, l7, l8⟩ := L
  intro H locs ls hP hD hS hl
  have hw : (([] : List Nat).take ([] : List va_E).length).map (fun i => w[i]?) = ([] : List va_E).map (fun c => some (reE (rl []) c)) := rfl
  obtain ⟨hPc, hDc⟩ := q_pre (ad := ad) hw rfl hP hD
  subst hst
  have hA : ∀ q, (∃ j, j < ([] : List va_E).length ∧ q = ad (rl [] j)) → A q := by
    rintro q ⟨j, hj, rfl⟩
    exact absurd hj (Nat.not_lt_zero j)
  refine q_call (va_runSN (As := As.map (reV fun j => ad (rl [] j))) (rest := rest.map (reV ad)) ⟨hx, hb, hml, hown, hts⟩ (hM l D (fun j => ad (rl [] j)) (fun q => ∃ j, j < ([] : List va_E).length ∧ q = ad (rl [] j))) ⟨va_cnB n hts (tb_goodc l5) rfl rfl rfl (hN _ l1) (hts _ l4) ⟨l6, l7, l8⟩ ⟨Nat.le_trans hroom.1 hrm.1, Nat.le_trans hroom.2 hrm.2⟩, hts _ l2, trivial⟩ ⟨q_blind, fun U hU hW => ⟨rfl, by rw [hU]; exact hPc, va_K.moved hW.alike hK, hDc, hN.warm hW⟩⟩ rfl (by rw [List.length_map]; exact hn) hl.1 ?_ (lv_room (by rw [st_cat]; exact hcat)) hd ⟨hce, hsl⟩) hS hA (fun H1 locs1 hP1 hDx hz hk hS1 => ?_)
  · show List.map (reV ad) _ = _
    rw [As_comp]
  · obtain ⟨hP2, hD2⟩ := q_post (w' := w) hw rfl rfl rfl hP hD hP1 hk
    rw [V_comp]
    exact h H1 locs1 ls hP2 hD2 hS1 hl
theorem G_callV0 {k : KX} {cc : ByteArray} {o nL fr lo : Nat} {cy : Nat → ClassId} {pc : Nat} {lv : List (Nat × Value)} {w : List va_E} (C : OK k cc o nL cy fr lo) {idx : Nat} {y : MethodName} {bytes : ByteArray} {maxL n : Nat} {ret : Option FieldType} {fr' lo' : Nat} (L : LkV o idx y bytes maxL n ret) (hroom : fr' + 1 ≤ fr ∧ 8 + (maxL + 11) + lo' ≤ lo) (hd : decode cc pc = .ok (.invokevirtual idx, 3))
    {As : List Value} {V : Option Value} {ci : Nat} {fs : List Value} {rest st : List Value} {w' : List va_E} (hM : MG cy y bytes maxL ret fr' lo' (.ref 0 :: As) w V w') (hst : st = As.reverse ++ .ref 0 :: rest) (hn : As.length = n) (hcat : (rest.map fun v => v.category).sum ≤ 8)
    (hr : w[0]? = some (.inr (ci, fs)) ∧ (classes[ci]?).map (fun q => q.1) = some y.cls) (h : G k nL (pc + 3) lv (V.toList ++ rest) w') : G k nL pc lv st w := by
  obtain ⟨p, l, e, R, s, m, args, below, meth, c, D, ad, A, cells, slots, Q⟩ := k
  obtain ⟨hx, hb, hml, hown, hts, hK, hN, hrm, hce, hsl⟩ := C
  obtain ⟨l1, l2, l3, l4, l5, l6, l7, l8⟩ := L
  intro H locs ls hP hD hS hl
  subst hst
  have hcw : CallW R s args (ownN o) y.cls idx y bytes maxL ret (Cond.code y bytes maxL ret :: tbl) { frames := fr', cells := 0, slots := 0, locals := lo' } 0 0 n :=
    ⟨callB_of n hts (tb_goodc l5) rfl rfl rfl (hts _ l4) (hts _ l1) ⟨l6, l7, l8⟩ ⟨Nat.le_trans hroom.1 hrm.1, Nat.le_trans hroom.2 hrm.2⟩, hts _ l2, hts _ l3⟩
  obtain ⟨qc, hqc, hqn⟩ : ∃ qc, classes[ci]? = some qc ∧ qc.1 = y.cls := by
    have h2 := hr.2
    cases hq : classes[ci]? with
    | none => rw [hq] at h2; cases h2
    | some qc => rw [hq] at h2; exact ⟨qc, rfl, Option.some.inj h2⟩
  refine q_call (va_runV (As := As.map (reV ad)) (b := ad 0) (rest := rest.map (reV ad)) ⟨hx, hb, hml, hown, hts⟩ (hM l D ad A) hcw ⟨q_blind, ?_, fun U hU hW => ⟨rfl, by rw [hU]; exact hP, va_K.moved hW.alike hK, hD, hN.warm hW⟩⟩ rfl (by rw [List.length_map]; exact hn) hl.1 ?_ (lv_room (by rw [st_cat]; exact hcat)) hd ⟨hce, hsl⟩) hS (fun _ q => q) (fun H1 locs1 hP1 hDx hz hk hS1 => ?_)
  · rw [← hqn]
    exact va_recv hK hP hqc (wd_at hr.1)
  · show List.map (reV ad) _ = _
    rw [List.map_append, List.map_reverse]
    rfl
  · have e : (V.map (reV ad)).toList ++ rest.map (reV ad) = (V.toList ++ rest).map (reV ad) := by cases V <;> rfl
    rw [e]
    exact h H1 locs1 ls hP1 hDx hS1 hl
end
section
theorem ini_10 : Cond.initialized RL ∈ tbl := tb_in 54 (by decide +kernel) (by decide +kernel)
theorem ini_6 : Cond.initialized RX6 ∈ tbl := tb_in 55 (by decide +kernel) (by decide +kernel)
theorem ini_3 : Cond.initialized RX3 ∈ tbl := tb_in 56 (by decide +kernel) (by decide +kernel)
theorem ini_1 : Cond.initialized RX1 ∈ tbl := tb_in 57 (by decide +kernel) (by decide +kernel)
theorem ini_0 : Cond.initialized RX0 ∈ tbl := tb_in 58 (by decide +kernel) (by decide +kernel)
theorem ini_4 : Cond.initialized RX4 ∈ tbl := tb_in 59 (by decide +kernel) (by decide +kernel)
theorem ini_5 : Cond.initialized RX5 ∈ tbl := tb_in 60 (by decide +kernel) (by decide +kernel)
theorem ini_2 : Cond.initialized RX2 ∈ tbl := tb_in 61 (by decide +kernel) (by decide +kernel)
theorem ini_7 : Cond.initialized RX7 ∈ tbl := tb_in 62 (by decide +kernel) (by decide +kernel)
theorem ini_8 : Cond.initialized RJ6 ∈ tbl := tb_in 63 (by decide +kernel) (by decide +kernel)
theorem ini_9 : Cond.initialized RJ9 ∈ tbl := tb_in 64 (by decide +kernel) (by decide +kernel)
set_option maxRecDepth 20000 in
theorem cd_X6_moment : Cond.code yX6_moment cX6_moment 5 (some .int) ∈ tbl := tb_in 226 rfl rfl
theorem im_X6_moment : Cond.instanceMethod yX6_moment ∈ tbl := tb_in 224 (by decide +kernel) (by decide +kernel)
theorem se_X6_moment : Cond.selects yX6_moment.cls yX6_moment yX6_moment ∈ tbl := tb_in 225 (by decide +kernel) (by decide +kernel)
theorem pd_X6_moment : yX6_moment.cls ≠ "java/lang/invoke/MethodHandle" ∧ yX6_moment.cls ≠ "java/lang/invoke/VarHandle" ∧ (parseMethodDescriptor yX6_moment.desc).map (fun d => d.parameters.length) = some 2 := by decide +kernel
theorem lk_10_13 : LkV 10 13 yX6_moment cX6_moment 5 2 (some .int) := ⟨tb_in 223 (by decide +kernel) (by decide +kernel), im_X6_moment, se_X6_moment, ini_6, cd_X6_moment, pd_X6_moment⟩
set_option maxRecDepth 20000 in
theorem cd_X3_at : Cond.code yX3_at cX3_at 2 (some .int) ∈ tbl := tb_in 230 rfl rfl
theorem im_X3_at : Cond.instanceMethod yX3_at ∈ tbl := tb_in 228 (by decide +kernel) (by decide +kernel)
theorem se_X3_at : Cond.selects yX3_at.cls yX3_at yX3_at ∈ tbl := tb_in 229 (by decide +kernel) (by decide +kernel)
theorem pd_X3_at : yX3_at.cls ≠ "java/lang/invoke/MethodHandle" ∧ yX3_at.cls ≠ "java/lang/invoke/VarHandle" ∧ (parseMethodDescriptor yX3_at.desc).map (fun d => d.parameters.length) = some 1 := by decide +kernel
theorem lk_6_61 : LkV 6 61 yX3_at cX3_at 2 1 (some .int) := ⟨tb_in 227 (by decide +kernel) (by decide +kernel), im_X3_at, se_X3_at, ini_3, cd_X3_at, pd_X3_at⟩
set_option maxRecDepth 20000 in
theorem cd_X3_copy : Cond.code yX3_copy cX3_copy 3 none ∈ tbl := tb_in 234 rfl rfl
theorem im_X3_copy : Cond.instanceMethod yX3_copy ∈ tbl := tb_in 232 (by decide +kernel) (by decide +kernel)
theorem se_X3_copy : Cond.selects yX3_copy.cls yX3_copy yX3_copy ∈ tbl := tb_in 233 (by decide +kernel) (by decide +kernel)
theorem pd_X3_copy : yX3_copy.cls ≠ "java/lang/invoke/MethodHandle" ∧ yX3_copy.cls ≠ "java/lang/invoke/VarHandle" ∧ (parseMethodDescriptor yX3_copy.desc).map (fun d => d.parameters.length) = some 1 := by decide +kernel
theorem lk_6_65 : LkV 6 65 yX3_copy cX3_copy 3 1 none := ⟨tb_in 231 (by decide +kernel) (by decide +kernel), im_X3_copy, se_X3_copy, ini_3, cd_X3_copy, pd_X3_copy⟩
theorem lk_3_38 : LkV 3 38 yX3_at cX3_at 2 1 (some .int) := ⟨tb_in 235 (by decide +kernel) (by decide +kernel), im_X3_at, se_X3_at, ini_3, cd_X3_at, pd_X3_at⟩
set_option maxRecDepth 20000 in
theorem cd_X3_size : Cond.code yX3_size cX3_size 1 (some .int) ∈ tbl := tb_in 239 rfl rfl
theorem im_X3_size : Cond.instanceMethod yX3_size ∈ tbl := tb_in 237 (by decide +kernel) (by decide +kernel)
theorem se_X3_size : Cond.selects yX3_size.cls yX3_size yX3_size ∈ tbl := tb_in 238 (by decide +kernel) (by decide +kernel)
theorem pd_X3_size : yX3_size.cls ≠ "java/lang/invoke/MethodHandle" ∧ yX3_size.cls ≠ "java/lang/invoke/VarHandle" ∧ (parseMethodDescriptor yX3_size.desc).map (fun d => d.parameters.length) = some 0 := by decide +kernel
theorem lk_3_42 : LkV 3 42 yX3_size cX3_size 1 0 (some .int) := ⟨tb_in 236 (by decide +kernel) (by decide +kernel), im_X3_size, se_X3_size, ini_3, cd_X3_size, pd_X3_size⟩
set_option maxRecDepth 20000 in
theorem cd_X3_put : Cond.code yX3_put cX3_put 3 (some .int) ∈ tbl := tb_in 243 rfl rfl
theorem im_X3_put : Cond.instanceMethod yX3_put ∈ tbl := tb_in 241 (by decide +kernel) (by decide +kernel)
theorem se_X3_put : Cond.selects yX3_put.cls yX3_put yX3_put ∈ tbl := tb_in 242 (by decide +kernel) (by decide +kernel)
theorem pd_X3_put : yX3_put.cls ≠ "java/lang/invoke/MethodHandle" ∧ yX3_put.cls ≠ "java/lang/invoke/VarHandle" ∧ (parseMethodDescriptor yX3_put.desc).map (fun d => d.parameters.length) = some 2 := by decide +kernel
theorem lk_6_69 : LkV 6 69 yX3_put cX3_put 3 2 (some .int) := ⟨tb_in 240 (by decide +kernel) (by decide +kernel), im_X3_put, se_X3_put, ini_3, cd_X3_put, pd_X3_put⟩
set_option maxRecDepth 20000 in
theorem cd_X6_isOutside : Cond.code yX6_isOutside cX6_isOutside 3 (some .boolean) ∈ tbl := tb_in 246 rfl rfl
theorem sa_X6_isOutside : Cond.static yX6_isOutside ∈ tbl := tb_in 245 (by decide +kernel) (by decide +kernel)
theorem pd_X6_isOutside : yX6_isOutside.cls ≠ "java/lang/invoke/MethodHandle" ∧ yX6_isOutside.cls ≠ "java/lang/invoke/VarHandle" ∧ (parseMethodDescriptor yX6_isOutside.desc).map (fun d => d.parameters.length) = some 3 := by decide +kernel
theorem lk_3_45 : LkN 3 45 yX6_isOutside cX6_isOutside 3 3 (some .boolean) := ⟨by decide +kernel, sa_X6_isOutside, ini_6, cd_X6_isOutside, pd_X6_isOutside⟩
set_option maxRecDepth 20000 in
theorem cd_X3_isNoMoment : Cond.code yX3_isNoMoment cX3_isNoMoment 1 (some .boolean) ∈ tbl := tb_in 249 rfl rfl
theorem sa_X3_isNoMoment : Cond.static yX3_isNoMoment ∈ tbl := tb_in 248 (by decide +kernel) (by decide +kernel)
theorem pd_X3_isNoMoment : yX3_isNoMoment.cls ≠ "java/lang/invoke/MethodHandle" ∧ yX3_isNoMoment.cls ≠ "java/lang/invoke/VarHandle" ∧ (parseMethodDescriptor yX3_isNoMoment.desc).map (fun d => d.parameters.length) = some 1 := by decide +kernel
theorem lk_3_49 : LkS 3 49 yX3_isNoMoment cX3_isNoMoment 1 1 (some .boolean) := ⟨tb_in 247 (by decide +kernel) (by decide +kernel), sa_X3_isNoMoment, ini_3, cd_X3_isNoMoment, pd_X3_isNoMoment⟩
set_option maxRecDepth 20000 in
theorem cd_X6_refuse : Cond.code yX6_refuse cX6_refuse 2 (some .int) ∈ tbl := tb_in 254 rfl rfl
theorem im_X6_refuse : Cond.instanceMethod yX6_refuse ∈ tbl := tb_in 253 (by decide +kernel) (by decide +kernel)
theorem se_X6_refuse : Cond.selects yX6_refuse.cls yX6_refuse yX6_refuse ∈ tbl := tb_in 0 (by decide +kernel) (by decide +kernel)
theorem pd_X6_refuse : yX6_refuse.cls ≠ "java/lang/invoke/MethodHandle" ∧ yX6_refuse.cls ≠ "java/lang/invoke/VarHandle" ∧ (parseMethodDescriptor yX6_refuse.desc).map (fun d => d.parameters.length) = some 1 := by decide +kernel
theorem lk_6_73 : LkV 6 73 yX6_refuse cX6_refuse 2 1 (some .int) := ⟨tb_in 251 (by decide +kernel) (by decide +kernel), im_X6_refuse, se_X6_refuse, ini_6, cd_X6_refuse, pd_X6_refuse⟩
set_option maxRecDepth 20000 in
theorem cd_X6_keepTrial : Cond.code yX6_keepTrial cX6_keepTrial 1 none ∈ tbl := tb_in 260 rfl rfl
theorem im_X6_keepTrial : Cond.instanceMethod yX6_keepTrial ∈ tbl := tb_in 259 (by decide +kernel) (by decide +kernel)
theorem se_X6_keepTrial : Cond.selects yX6_keepTrial.cls yX6_keepTrial yX6_keepTrial ∈ tbl := tb_in 1 (by decide +kernel) (by decide +kernel)
theorem pd_X6_keepTrial : yX6_keepTrial.cls ≠ "java/lang/invoke/MethodHandle" ∧ yX6_keepTrial.cls ≠ "java/lang/invoke/VarHandle" ∧ (parseMethodDescriptor yX6_keepTrial.desc).map (fun d => d.parameters.length) = some 0 := by decide +kernel
theorem lk_6_76 : LkV 6 76 yX6_keepTrial cX6_keepTrial 1 0 none := ⟨tb_in 257 (by decide +kernel) (by decide +kernel), im_X6_keepTrial, se_X6_keepTrial, ini_6, cd_X6_keepTrial, pd_X6_keepTrial⟩
set_option maxRecDepth 20000 in
theorem cd_X4_push : Cond.code yX4_push cX4_push 2 none ∈ tbl := tb_in 264 rfl rfl
theorem im_X4_push : Cond.instanceMethod yX4_push ∈ tbl := tb_in 262 (by decide +kernel) (by decide +kernel)
theorem se_X4_push : Cond.selects yX4_push.cls yX4_push yX4_push ∈ tbl := tb_in 263 (by decide +kernel) (by decide +kernel)
theorem pd_X4_push : yX4_push.cls ≠ "java/lang/invoke/MethodHandle" ∧ yX4_push.cls ≠ "java/lang/invoke/VarHandle" ∧ (parseMethodDescriptor yX4_push.desc).map (fun d => d.parameters.length) = some 1 := by decide +kernel
theorem lk_6_232 : LkV 6 232 yX4_push cX4_push 2 1 none := ⟨tb_in 261 (by decide +kernel) (by decide +kernel), im_X4_push, se_X4_push, ini_4, cd_X4_push, pd_X4_push⟩
set_option maxRecDepth 20000 in
theorem cd_X4_place : Cond.code yX4_place cX4_place 2 (some .int) ∈ tbl := tb_in 268 rfl rfl
theorem im_X4_place : Cond.instanceMethod yX4_place ∈ tbl := tb_in 267 (by decide +kernel) (by decide +kernel)
theorem se_X4_place : Cond.selects yX4_place.cls yX4_place yX4_place ∈ tbl := tb_in 2 (by decide +kernel) (by decide +kernel)
theorem pd_X4_place : yX4_place.cls ≠ "java/lang/invoke/MethodHandle" ∧ yX4_place.cls ≠ "java/lang/invoke/VarHandle" ∧ (parseMethodDescriptor yX4_place.desc).map (fun d => d.parameters.length) = some 1 := by decide +kernel
theorem lk_4_22 : LkV 4 22 yX4_place cX4_place 2 1 (some .int) := ⟨tb_in 265 (by decide +kernel) (by decide +kernel), im_X4_place, se_X4_place, ini_4, cd_X4_place, pd_X4_place⟩
set_option maxRecDepth 20000 in
theorem cd_X3_save : Cond.code yX3_save cX3_save 4 none ∈ tbl := tb_in 272 rfl rfl
theorem im_X3_save : Cond.instanceMethod yX3_save ∈ tbl := tb_in 270 (by decide +kernel) (by decide +kernel)
theorem se_X3_save : Cond.selects yX3_save.cls yX3_save yX3_save ∈ tbl := tb_in 271 (by decide +kernel) (by decide +kernel)
theorem pd_X3_save : yX3_save.cls ≠ "java/lang/invoke/MethodHandle" ∧ yX3_save.cls ≠ "java/lang/invoke/VarHandle" ∧ (parseMethodDescriptor yX3_save.desc).map (fun d => d.parameters.length) = some 2 := by decide +kernel
theorem lk_4_26 : LkV 4 26 yX3_save cX3_save 4 2 none := ⟨tb_in 269 (by decide +kernel) (by decide +kernel), im_X3_save, se_X3_save, ini_3, cd_X3_save, pd_X3_save⟩
set_option maxRecDepth 20000 in
theorem cd_X6_more : Cond.code yX6_more cX6_more 3 (some .int) ∈ tbl := tb_in 276 rfl rfl
theorem im_X6_more : Cond.instanceMethod yX6_more ∈ tbl := tb_in 274 (by decide +kernel) (by decide +kernel)
theorem se_X6_more : Cond.selects yX6_more.cls yX6_more yX6_more ∈ tbl := tb_in 275 (by decide +kernel) (by decide +kernel)
theorem pd_X6_more : yX6_more.cls ≠ "java/lang/invoke/MethodHandle" ∧ yX6_more.cls ≠ "java/lang/invoke/VarHandle" ∧ (parseMethodDescriptor yX6_more.desc).map (fun d => d.parameters.length) = some 1 := by decide +kernel
theorem lk_10_18 : LkV 10 18 yX6_more cX6_more 3 1 (some .int) := ⟨tb_in 273 (by decide +kernel) (by decide +kernel), im_X6_more, se_X6_more, ini_6, cd_X6_more, pd_X6_more⟩
set_option maxRecDepth 20000 in
theorem cd_X3_append : Cond.code yX3_append cX3_append 2 (some .int) ∈ tbl := tb_in 280 rfl rfl
theorem im_X3_append : Cond.instanceMethod yX3_append ∈ tbl := tb_in 278 (by decide +kernel) (by decide +kernel)
theorem se_X3_append : Cond.selects yX3_append.cls yX3_append yX3_append ∈ tbl := tb_in 279 (by decide +kernel) (by decide +kernel)
theorem pd_X3_append : yX3_append.cls ≠ "java/lang/invoke/MethodHandle" ∧ yX3_append.cls ≠ "java/lang/invoke/VarHandle" ∧ (parseMethodDescriptor yX3_append.desc).map (fun d => d.parameters.length) = some 1 := by decide +kernel
theorem lk_6_79 : LkV 6 79 yX3_append cX3_append 2 1 (some .int) := ⟨tb_in 277 (by decide +kernel) (by decide +kernel), im_X3_append, se_X3_append, ini_3, cd_X3_append, pd_X3_append⟩
theorem lk_6_82 : LkV 6 82 yX3_size cX3_size 1 0 (some .int) := ⟨tb_in 282 (by decide +kernel) (by decide +kernel), im_X3_size, se_X3_size, ini_3, cd_X3_size, pd_X3_size⟩
set_option maxRecDepth 20000 in
theorem cd_X6_less : Cond.code yX6_less cX6_less 2 (some .int) ∈ tbl := tb_in 286 rfl rfl
theorem im_X6_less : Cond.instanceMethod yX6_less ∈ tbl := tb_in 284 (by decide +kernel) (by decide +kernel)
theorem se_X6_less : Cond.selects yX6_less.cls yX6_less yX6_less ∈ tbl := tb_in 285 (by decide +kernel) (by decide +kernel)
theorem pd_X6_less : yX6_less.cls ≠ "java/lang/invoke/MethodHandle" ∧ yX6_less.cls ≠ "java/lang/invoke/VarHandle" ∧ (parseMethodDescriptor yX6_less.desc).map (fun d => d.parameters.length) = some 0 := by decide +kernel
theorem lk_10_23 : LkV 10 23 yX6_less cX6_less 2 0 (some .int) := ⟨tb_in 283 (by decide +kernel) (by decide +kernel), im_X6_less, se_X6_less, ini_6, cd_X6_less, pd_X6_less⟩
set_option maxRecDepth 20000 in
theorem cd_X3_drop : Cond.code yX3_drop cX3_drop 1 (some .int) ∈ tbl := tb_in 290 rfl rfl
theorem im_X3_drop : Cond.instanceMethod yX3_drop ∈ tbl := tb_in 288 (by decide +kernel) (by decide +kernel)
theorem se_X3_drop : Cond.selects yX3_drop.cls yX3_drop yX3_drop ∈ tbl := tb_in 289 (by decide +kernel) (by decide +kernel)
theorem pd_X3_drop : yX3_drop.cls ≠ "java/lang/invoke/MethodHandle" ∧ yX3_drop.cls ≠ "java/lang/invoke/VarHandle" ∧ (parseMethodDescriptor yX3_drop.desc).map (fun d => d.parameters.length) = some 0 := by decide +kernel
theorem lk_6_86 : LkV 6 86 yX3_drop cX3_drop 1 0 (some .int) := ⟨tb_in 287 (by decide +kernel) (by decide +kernel), im_X3_drop, se_X3_drop, ini_3, cd_X3_drop, pd_X3_drop⟩
set_option maxRecDepth 20000 in
theorem cd_X6_adds : Cond.code yX6_adds cX6_adds 4 (some .int) ∈ tbl := tb_in 295 rfl rfl
theorem im_X6_adds : Cond.instanceMethod yX6_adds ∈ tbl := tb_in 293 (by decide +kernel) (by decide +kernel)
theorem se_X6_adds : Cond.selects yX6_adds.cls yX6_adds yX6_adds ∈ tbl := tb_in 294 (by decide +kernel) (by decide +kernel)
theorem pd_X6_adds : yX6_adds.cls ≠ "java/lang/invoke/MethodHandle" ∧ yX6_adds.cls ≠ "java/lang/invoke/VarHandle" ∧ (parseMethodDescriptor yX6_adds.desc).map (fun d => d.parameters.length) = some 2 := by decide +kernel
theorem lk_10_28 : LkV 10 28 yX6_adds cX6_adds 4 2 (some .int) := ⟨tb_in 292 (by decide +kernel) (by decide +kernel), im_X6_adds, se_X6_adds, ini_6, cd_X6_adds, pd_X6_adds⟩
set_option maxRecDepth 20000 in
theorem cd_X3_addPlace : Cond.code yX3_addPlace cX3_addPlace 6 (some .int) ∈ tbl := tb_in 299 rfl rfl
theorem im_X3_addPlace : Cond.instanceMethod yX3_addPlace ∈ tbl := tb_in 297 (by decide +kernel) (by decide +kernel)
theorem se_X3_addPlace : Cond.selects yX3_addPlace.cls yX3_addPlace yX3_addPlace ∈ tbl := tb_in 298 (by decide +kernel) (by decide +kernel)
theorem pd_X3_addPlace : yX3_addPlace.cls ≠ "java/lang/invoke/MethodHandle" ∧ yX3_addPlace.cls ≠ "java/lang/invoke/VarHandle" ∧ (parseMethodDescriptor yX3_addPlace.desc).map (fun d => d.parameters.length) = some 2 := by decide +kernel
theorem lk_6_89 : LkV 6 89 yX3_addPlace cX3_addPlace 6 2 (some .int) := ⟨tb_in 296 (by decide +kernel) (by decide +kernel), im_X3_addPlace, se_X3_addPlace, ini_3, cd_X3_addPlace, pd_X3_addPlace⟩
set_option maxRecDepth 20000 in
theorem cd_X3_isNoShift : Cond.code yX3_isNoShift cX3_isNoShift 1 (some .boolean) ∈ tbl := tb_in 302 rfl rfl
theorem sa_X3_isNoShift : Cond.static yX3_isNoShift ∈ tbl := tb_in 301 (by decide +kernel) (by decide +kernel)
theorem pd_X3_isNoShift : yX3_isNoShift.cls ≠ "java/lang/invoke/MethodHandle" ∧ yX3_isNoShift.cls ≠ "java/lang/invoke/VarHandle" ∧ (parseMethodDescriptor yX3_isNoShift.desc).map (fun d => d.parameters.length) = some 1 := by decide +kernel
theorem lk_3_56 : LkS 3 56 yX3_isNoShift cX3_isNoShift 1 1 (some .boolean) := ⟨tb_in 300 (by decide +kernel) (by decide +kernel), sa_X3_isNoShift, ini_3, cd_X3_isNoShift, pd_X3_isNoShift⟩
set_option maxRecDepth 20000 in
theorem cd_X3_takeNext : Cond.code yX3_takeNext cX3_takeNext 3 (some .int) ∈ tbl := tb_in 306 rfl rfl
theorem im_X3_takeNext : Cond.instanceMethod yX3_takeNext ∈ tbl := tb_in 305 (by decide +kernel) (by decide +kernel)
theorem se_X3_takeNext : Cond.selects yX3_takeNext.cls yX3_takeNext yX3_takeNext ∈ tbl := tb_in 3 (by decide +kernel) (by decide +kernel)
theorem pd_X3_takeNext : yX3_takeNext.cls ≠ "java/lang/invoke/MethodHandle" ∧ yX3_takeNext.cls ≠ "java/lang/invoke/VarHandle" ∧ (parseMethodDescriptor yX3_takeNext.desc).map (fun d => d.parameters.length) = some 1 := by decide +kernel
theorem lk_3_59 : LkV 3 59 yX3_takeNext cX3_takeNext 3 1 (some .int) := ⟨tb_in 303 (by decide +kernel) (by decide +kernel), im_X3_takeNext, se_X3_takeNext, ini_3, cd_X3_takeNext, pd_X3_takeNext⟩
set_option maxRecDepth 20000 in
theorem cd_X6_moves : Cond.code yX6_moves cX6_moves 3 (some .int) ∈ tbl := tb_in 312 rfl rfl
theorem im_X6_moves : Cond.instanceMethod yX6_moves ∈ tbl := tb_in 310 (by decide +kernel) (by decide +kernel)
theorem se_X6_moves : Cond.selects yX6_moves.cls yX6_moves yX6_moves ∈ tbl := tb_in 311 (by decide +kernel) (by decide +kernel)
theorem pd_X6_moves : yX6_moves.cls ≠ "java/lang/invoke/MethodHandle" ∧ yX6_moves.cls ≠ "java/lang/invoke/VarHandle" ∧ (parseMethodDescriptor yX6_moves.desc).map (fun d => d.parameters.length) = some 1 := by decide +kernel
theorem lk_10_32 : LkV 10 32 yX6_moves cX6_moves 3 1 (some .int) := ⟨tb_in 309 (by decide +kernel) (by decide +kernel), im_X6_moves, se_X6_moves, ini_6, cd_X6_moves, pd_X6_moves⟩
set_option maxRecDepth 20000 in
theorem cd_X3_shift : Cond.code yX3_shift cX3_shift 3 (some .int) ∈ tbl := tb_in 316 rfl rfl
theorem im_X3_shift : Cond.instanceMethod yX3_shift ∈ tbl := tb_in 314 (by decide +kernel) (by decide +kernel)
theorem se_X3_shift : Cond.selects yX3_shift.cls yX3_shift yX3_shift ∈ tbl := tb_in 315 (by decide +kernel) (by decide +kernel)
theorem pd_X3_shift : yX3_shift.cls ≠ "java/lang/invoke/MethodHandle" ∧ yX3_shift.cls ≠ "java/lang/invoke/VarHandle" ∧ (parseMethodDescriptor yX3_shift.desc).map (fun d => d.parameters.length) = some 1 := by decide +kernel
theorem lk_6_92 : LkV 6 92 yX3_shift cX3_shift 3 1 (some .int) := ⟨tb_in 313 (by decide +kernel) (by decide +kernel), im_X3_shift, se_X3_shift, ini_3, cd_X3_shift, pd_X3_shift⟩
set_option maxRecDepth 20000 in
theorem cd_X1_begin : Cond.code yX1_begin cX1_begin 1 none ∈ tbl := tb_in 320 rfl rfl
theorem im_X1_begin : Cond.instanceMethod yX1_begin ∈ tbl := tb_in 318 (by decide +kernel) (by decide +kernel)
theorem se_X1_begin : Cond.selects yX1_begin.cls yX1_begin yX1_begin ∈ tbl := tb_in 319 (by decide +kernel) (by decide +kernel)
theorem pd_X1_begin : yX1_begin.cls ≠ "java/lang/invoke/MethodHandle" ∧ yX1_begin.cls ≠ "java/lang/invoke/VarHandle" ∧ (parseMethodDescriptor yX1_begin.desc).map (fun d => d.parameters.length) = some 0 := by decide +kernel
theorem lk_3_62 : LkV 3 62 yX1_begin cX1_begin 1 0 none := ⟨tb_in 317 (by decide +kernel) (by decide +kernel), im_X1_begin, se_X1_begin, ini_1, cd_X1_begin, pd_X1_begin⟩
set_option maxRecDepth 20000 in
theorem cd_X3_mean : Cond.code yX3_mean cX3_mean 6 (some .long) ∈ tbl := tb_in 324 rfl rfl
theorem im_X3_mean : Cond.instanceMethod yX3_mean ∈ tbl := tb_in 322 (by decide +kernel) (by decide +kernel)
theorem se_X3_mean : Cond.selects yX3_mean.cls yX3_mean yX3_mean ∈ tbl := tb_in 323 (by decide +kernel) (by decide +kernel)
theorem pd_X3_mean : yX3_mean.cls ≠ "java/lang/invoke/MethodHandle" ∧ yX3_mean.cls ≠ "java/lang/invoke/VarHandle" ∧ (parseMethodDescriptor yX3_mean.desc).map (fun d => d.parameters.length) = some 2 := by decide +kernel
theorem lk_3_65 : LkV 3 65 yX3_mean cX3_mean 6 2 (some .long) := ⟨tb_in 321 (by decide +kernel) (by decide +kernel), im_X3_mean, se_X3_mean, ini_3, cd_X3_mean, pd_X3_mean⟩
set_option maxRecDepth 20000 in
theorem cd_X1_degree : Cond.code yX1_degree cX1_degree 1 (some .int) ∈ tbl := tb_in 328 rfl rfl
theorem im_X1_degree : Cond.instanceMethod yX1_degree ∈ tbl := tb_in 326 (by decide +kernel) (by decide +kernel)
theorem se_X1_degree : Cond.selects yX1_degree.cls yX1_degree yX1_degree ∈ tbl := tb_in 327 (by decide +kernel) (by decide +kernel)
theorem pd_X1_degree : yX1_degree.cls ≠ "java/lang/invoke/MethodHandle" ∧ yX1_degree.cls ≠ "java/lang/invoke/VarHandle" ∧ (parseMethodDescriptor yX1_degree.desc).map (fun d => d.parameters.length) = some 0 := by decide +kernel
theorem lk_3_30 : LkV 3 30 yX1_degree cX1_degree 1 0 (some .int) := ⟨tb_in 325 (by decide +kernel) (by decide +kernel), im_X1_degree, se_X1_degree, ini_1, cd_X1_degree, pd_X1_degree⟩
set_option maxRecDepth 20000 in
theorem cd_X1_number : Cond.code yX1_number cX1_number 2 (some .long) ∈ tbl := tb_in 332 rfl rfl
theorem im_X1_number : Cond.instanceMethod yX1_number ∈ tbl := tb_in 330 (by decide +kernel) (by decide +kernel)
theorem se_X1_number : Cond.selects yX1_number.cls yX1_number yX1_number ∈ tbl := tb_in 331 (by decide +kernel) (by decide +kernel)
theorem pd_X1_number : yX1_number.cls ≠ "java/lang/invoke/MethodHandle" ∧ yX1_number.cls ≠ "java/lang/invoke/VarHandle" ∧ (parseMethodDescriptor yX1_number.desc).map (fun d => d.parameters.length) = some 1 := by decide +kernel
theorem lk_3_34 : LkV 3 34 yX1_number cX1_number 2 1 (some .long) := ⟨tb_in 329 (by decide +kernel) (by decide +kernel), im_X1_number, se_X1_number, ini_1, cd_X1_number, pd_X1_number⟩
set_option maxRecDepth 20000 in
theorem cd_X1_times : Cond.code yX1_times cX1_times 3 none ∈ tbl := tb_in 336 rfl rfl
theorem im_X1_times : Cond.instanceMethod yX1_times ∈ tbl := tb_in 334 (by decide +kernel) (by decide +kernel)
theorem se_X1_times : Cond.selects yX1_times.cls yX1_times yX1_times ∈ tbl := tb_in 335 (by decide +kernel) (by decide +kernel)
theorem pd_X1_times : yX1_times.cls ≠ "java/lang/invoke/MethodHandle" ∧ yX1_times.cls ≠ "java/lang/invoke/VarHandle" ∧ (parseMethodDescriptor yX1_times.desc).map (fun d => d.parameters.length) = some 1 := by decide +kernel
theorem lk_3_69 : LkV 3 69 yX1_times cX1_times 3 1 none := ⟨tb_in 333 (by decide +kernel) (by decide +kernel), im_X1_times, se_X1_times, ini_1, cd_X1_times, pd_X1_times⟩
theorem lk_1_19 : LkV 1 19 yX1_number cX1_number 2 1 (some .long) := ⟨tb_in 337 (by decide +kernel) (by decide +kernel), im_X1_number, se_X1_number, ini_1, cd_X1_number, pd_X1_number⟩
set_option maxRecDepth 20000 in
theorem cd_X6_stretches : Cond.code yX6_stretches cX6_stretches 3 (some .int) ∈ tbl := tb_in 341 rfl rfl
theorem im_X6_stretches : Cond.instanceMethod yX6_stretches ∈ tbl := tb_in 339 (by decide +kernel) (by decide +kernel)
theorem se_X6_stretches : Cond.selects yX6_stretches.cls yX6_stretches yX6_stretches ∈ tbl := tb_in 340 (by decide +kernel) (by decide +kernel)
theorem pd_X6_stretches : yX6_stretches.cls ≠ "java/lang/invoke/MethodHandle" ∧ yX6_stretches.cls ≠ "java/lang/invoke/VarHandle" ∧ (parseMethodDescriptor yX6_stretches.desc).map (fun d => d.parameters.length) = some 1 := by decide +kernel
theorem lk_10_36 : LkV 10 36 yX6_stretches cX6_stretches 3 1 (some .int) := ⟨tb_in 338 (by decide +kernel) (by decide +kernel), im_X6_stretches, se_X6_stretches, ini_6, cd_X6_stretches, pd_X6_stretches⟩
set_option maxRecDepth 20000 in
theorem cd_X3_scale : Cond.code yX3_scale cX3_scale 5 (some .int) ∈ tbl := tb_in 345 rfl rfl
theorem im_X3_scale : Cond.instanceMethod yX3_scale ∈ tbl := tb_in 343 (by decide +kernel) (by decide +kernel)
theorem se_X3_scale : Cond.selects yX3_scale.cls yX3_scale yX3_scale ∈ tbl := tb_in 344 (by decide +kernel) (by decide +kernel)
theorem pd_X3_scale : yX3_scale.cls ≠ "java/lang/invoke/MethodHandle" ∧ yX3_scale.cls ≠ "java/lang/invoke/VarHandle" ∧ (parseMethodDescriptor yX3_scale.desc).map (fun d => d.parameters.length) = some 1 := by decide +kernel
theorem lk_6_95 : LkV 6 95 yX3_scale cX3_scale 5 1 (some .int) := ⟨tb_in 342 (by decide +kernel) (by decide +kernel), im_X3_scale, se_X3_scale, ini_3, cd_X3_scale, pd_X3_scale⟩
set_option maxRecDepth 20000 in
theorem cd_X6_weighs : Cond.code yX6_weighs cX6_weighs 3 (some .int) ∈ tbl := tb_in 349 rfl rfl
theorem im_X6_weighs : Cond.instanceMethod yX6_weighs ∈ tbl := tb_in 347 (by decide +kernel) (by decide +kernel)
theorem se_X6_weighs : Cond.selects yX6_weighs.cls yX6_weighs yX6_weighs ∈ tbl := tb_in 348 (by decide +kernel) (by decide +kernel)
theorem pd_X6_weighs : yX6_weighs.cls ≠ "java/lang/invoke/MethodHandle" ∧ yX6_weighs.cls ≠ "java/lang/invoke/VarHandle" ∧ (parseMethodDescriptor yX6_weighs.desc).map (fun d => d.parameters.length) = some 1 := by decide +kernel
theorem lk_10_40 : LkV 10 40 yX6_weighs cX6_weighs 3 1 (some .int) := ⟨tb_in 346 (by decide +kernel) (by decide +kernel), im_X6_weighs, se_X6_weighs, ini_6, cd_X6_weighs, pd_X6_weighs⟩
set_option maxRecDepth 20000 in
theorem cd_X3_reweigh : Cond.code yX3_reweigh cX3_reweigh 3 (some .int) ∈ tbl := tb_in 353 rfl rfl
theorem im_X3_reweigh : Cond.instanceMethod yX3_reweigh ∈ tbl := tb_in 351 (by decide +kernel) (by decide +kernel)
theorem se_X3_reweigh : Cond.selects yX3_reweigh.cls yX3_reweigh yX3_reweigh ∈ tbl := tb_in 352 (by decide +kernel) (by decide +kernel)
theorem pd_X3_reweigh : yX3_reweigh.cls ≠ "java/lang/invoke/MethodHandle" ∧ yX3_reweigh.cls ≠ "java/lang/invoke/VarHandle" ∧ (parseMethodDescriptor yX3_reweigh.desc).map (fun d => d.parameters.length) = some 1 := by decide +kernel
theorem lk_6_98 : LkV 6 98 yX3_reweigh cX3_reweigh 3 1 (some .int) := ⟨tb_in 350 (by decide +kernel) (by decide +kernel), im_X3_reweigh, se_X3_reweigh, ini_3, cd_X3_reweigh, pd_X3_reweigh⟩
set_option maxRecDepth 20000 in
theorem cd_X6_of : Cond.code yX6_of cX6_of 2 (some .int) ∈ tbl := tb_in 357 rfl rfl
theorem im_X6_of : Cond.instanceMethod yX6_of ∈ tbl := tb_in 355 (by decide +kernel) (by decide +kernel)
theorem se_X6_of : Cond.selects yX6_of.cls yX6_of yX6_of ∈ tbl := tb_in 356 (by decide +kernel) (by decide +kernel)
theorem pd_X6_of : yX6_of.cls ≠ "java/lang/invoke/MethodHandle" ∧ yX6_of.cls ≠ "java/lang/invoke/VarHandle" ∧ (parseMethodDescriptor yX6_of.desc).map (fun d => d.parameters.length) = some 1 := by decide +kernel
theorem lk_10_44 : LkV 10 44 yX6_of cX6_of 2 1 (some .int) := ⟨tb_in 354 (by decide +kernel) (by decide +kernel), im_X6_of, se_X6_of, ini_6, cd_X6_of, pd_X6_of⟩
theorem lk_6_101 : LkS 6 101 yX6_isOutside cX6_isOutside 3 3 (some .boolean) := ⟨tb_in 358 (by decide +kernel) (by decide +kernel), sa_X6_isOutside, ini_6, cd_X6_isOutside, pd_X6_isOutside⟩
set_option maxRecDepth 20000 in
theorem cd_X6_determinant : Cond.code yX6_determinant cX6_determinant 3 (some .long) ∈ tbl := tb_in 362 rfl rfl
theorem im_X6_determinant : Cond.instanceMethod yX6_determinant ∈ tbl := tb_in 360 (by decide +kernel) (by decide +kernel)
theorem se_X6_determinant : Cond.selects yX6_determinant.cls yX6_determinant yX6_determinant ∈ tbl := tb_in 361 (by decide +kernel) (by decide +kernel)
theorem pd_X6_determinant : yX6_determinant.cls ≠ "java/lang/invoke/MethodHandle" ∧ yX6_determinant.cls ≠ "java/lang/invoke/VarHandle" ∧ (parseMethodDescriptor yX6_determinant.desc).map (fun d => d.parameters.length) = some 2 := by decide +kernel
theorem lk_10_48 : LkV 10 48 yX6_determinant cX6_determinant 3 2 (some .long) := ⟨tb_in 359 (by decide +kernel) (by decide +kernel), im_X6_determinant, se_X6_determinant, ini_6, cd_X6_determinant, pd_X6_determinant⟩
set_option maxRecDepth 20000 in
theorem cd_X3_hasTable : Cond.code yX3_hasTable cX3_hasTable 3 (some .boolean) ∈ tbl := tb_in 366 rfl rfl
theorem im_X3_hasTable : Cond.instanceMethod yX3_hasTable ∈ tbl := tb_in 364 (by decide +kernel) (by decide +kernel)
theorem se_X3_hasTable : Cond.selects yX3_hasTable.cls yX3_hasTable yX3_hasTable ∈ tbl := tb_in 365 (by decide +kernel) (by decide +kernel)
theorem pd_X3_hasTable : yX3_hasTable.cls ≠ "java/lang/invoke/MethodHandle" ∧ yX3_hasTable.cls ≠ "java/lang/invoke/VarHandle" ∧ (parseMethodDescriptor yX3_hasTable.desc).map (fun d => d.parameters.length) = some 2 := by decide +kernel
theorem lk_6_106 : LkV 6 106 yX3_hasTable cX3_hasTable 3 2 (some .boolean) := ⟨tb_in 363 (by decide +kernel) (by decide +kernel), im_X3_hasTable, se_X3_hasTable, ini_3, cd_X3_hasTable, pd_X3_hasTable⟩
set_option maxRecDepth 20000 in
theorem cd_X0_fill : Cond.code yX0_fill cX0_fill 4 none ∈ tbl := tb_in 370 rfl rfl
theorem im_X0_fill : Cond.instanceMethod yX0_fill ∈ tbl := tb_in 368 (by decide +kernel) (by decide +kernel)
theorem se_X0_fill : Cond.selects yX0_fill.cls yX0_fill yX0_fill ∈ tbl := tb_in 369 (by decide +kernel) (by decide +kernel)
theorem pd_X0_fill : yX0_fill.cls ≠ "java/lang/invoke/MethodHandle" ∧ yX0_fill.cls ≠ "java/lang/invoke/VarHandle" ∧ (parseMethodDescriptor yX0_fill.desc).map (fun d => d.parameters.length) = some 2 := by decide +kernel
theorem lk_6_111 : LkV 6 111 yX0_fill cX0_fill 4 2 none := ⟨tb_in 367 (by decide +kernel) (by decide +kernel), im_X0_fill, se_X0_fill, ini_0, cd_X0_fill, pd_X0_fill⟩
theorem lk_0_15 : LkV 0 15 yX3_size cX3_size 1 0 (some .int) := ⟨tb_in 371 (by decide +kernel) (by decide +kernel), im_X3_size, se_X3_size, ini_3, cd_X3_size, pd_X3_size⟩
set_option maxRecDepth 20000 in
theorem cd_X0_expand : Cond.code yX0_expand cX0_expand 12 (some .long) ∈ tbl := tb_in 375 rfl rfl
theorem im_X0_expand : Cond.instanceMethod yX0_expand ∈ tbl := tb_in 374 (by decide +kernel) (by decide +kernel)
theorem se_X0_expand : Cond.selects yX0_expand.cls yX0_expand yX0_expand ∈ tbl := tb_in 4 (by decide +kernel) (by decide +kernel)
theorem pd_X0_expand : yX0_expand.cls ≠ "java/lang/invoke/MethodHandle" ∧ yX0_expand.cls ≠ "java/lang/invoke/VarHandle" ∧ (parseMethodDescriptor yX0_expand.desc).map (fun d => d.parameters.length) = some 3 := by decide +kernel
theorem lk_0_25 : LkV 0 25 yX0_expand cX0_expand 12 3 (some .long) := ⟨tb_in 372 (by decide +kernel) (by decide +kernel), im_X0_expand, se_X0_expand, ini_0, cd_X0_expand, pd_X0_expand⟩
set_option maxRecDepth 20000 in
theorem cd_J6_bitCount_0f7a4 : Cond.code yJ6_bitCount_0f7a4 cJ6_bitCount_0f7a4 1 (some .int) ∈ tbl := tb_in 378 rfl rfl
theorem sa_J6_bitCount_0f7a4 : Cond.static yJ6_bitCount_0f7a4 ∈ tbl := tb_in 377 (by decide +kernel) (by decide +kernel)
theorem pd_J6_bitCount_0f7a4 : yJ6_bitCount_0f7a4.cls ≠ "java/lang/invoke/MethodHandle" ∧ yJ6_bitCount_0f7a4.cls ≠ "java/lang/invoke/VarHandle" ∧ (parseMethodDescriptor yJ6_bitCount_0f7a4.desc).map (fun d => d.parameters.length) = some 1 := by decide +kernel
theorem lk_0_29 : LkS 0 29 yJ6_bitCount_0f7a4 cJ6_bitCount_0f7a4 1 1 (some .int) := ⟨tb_in 376 (by decide +kernel) (by decide +kernel), sa_J6_bitCount_0f7a4, ini_8, cd_J6_bitCount_0f7a4, pd_J6_bitCount_0f7a4⟩
theorem lk_0_35 : LkV 0 35 yX3_at cX3_at 2 1 (some .int) := ⟨tb_in 382 (by decide +kernel) (by decide +kernel), im_X3_at, se_X3_at, ini_3, cd_X3_at, pd_X3_at⟩
set_option maxRecDepth 20000 in
theorem cd_X0_minor : Cond.code yX0_minor cX0_minor 2 (some .long) ∈ tbl := tb_in 386 rfl rfl
theorem im_X0_minor : Cond.instanceMethod yX0_minor ∈ tbl := tb_in 385 (by decide +kernel) (by decide +kernel)
theorem se_X0_minor : Cond.selects yX0_minor.cls yX0_minor yX0_minor ∈ tbl := tb_in 5 (by decide +kernel) (by decide +kernel)
theorem pd_X0_minor : yX0_minor.cls ≠ "java/lang/invoke/MethodHandle" ∧ yX0_minor.cls ≠ "java/lang/invoke/VarHandle" ∧ (parseMethodDescriptor yX0_minor.desc).map (fun d => d.parameters.length) = some 1 := by decide +kernel
theorem lk_0_38 : LkV 0 38 yX0_minor cX0_minor 2 1 (some .long) := ⟨tb_in 383 (by decide +kernel) (by decide +kernel), im_X0_minor, se_X0_minor, ini_0, cd_X0_minor, pd_X0_minor⟩
set_option maxRecDepth 20000 in
theorem cd_X0_det : Cond.code yX0_det cX0_det 2 (some .long) ∈ tbl := tb_in 390 rfl rfl
theorem im_X0_det : Cond.instanceMethod yX0_det ∈ tbl := tb_in 388 (by decide +kernel) (by decide +kernel)
theorem se_X0_det : Cond.selects yX0_det.cls yX0_det yX0_det ∈ tbl := tb_in 389 (by decide +kernel) (by decide +kernel)
theorem pd_X0_det : yX0_det.cls ≠ "java/lang/invoke/MethodHandle" ∧ yX0_det.cls ≠ "java/lang/invoke/VarHandle" ∧ (parseMethodDescriptor yX0_det.desc).map (fun d => d.parameters.length) = some 1 := by decide +kernel
theorem lk_6_115 : LkV 6 115 yX0_det cX0_det 2 1 (some .long) := ⟨tb_in 387 (by decide +kernel) (by decide +kernel), im_X0_det, se_X0_det, ini_0, cd_X0_det, pd_X0_det⟩
theorem lk_0_42 : LkN 0 42 yX6_isOutside cX6_isOutside 3 3 (some .boolean) := ⟨by decide +kernel, sa_X6_isOutside, ini_6, cd_X6_isOutside, pd_X6_isOutside⟩
set_option maxRecDepth 20000 in
theorem cd_X6_polynomial : Cond.code yX6_polynomial cX6_polynomial 4 (some .long) ∈ tbl := tb_in 395 rfl rfl
theorem im_X6_polynomial : Cond.instanceMethod yX6_polynomial ∈ tbl := tb_in 393 (by decide +kernel) (by decide +kernel)
theorem se_X6_polynomial : Cond.selects yX6_polynomial.cls yX6_polynomial yX6_polynomial ∈ tbl := tb_in 394 (by decide +kernel) (by decide +kernel)
theorem pd_X6_polynomial : yX6_polynomial.cls ≠ "java/lang/invoke/MethodHandle" ∧ yX6_polynomial.cls ≠ "java/lang/invoke/VarHandle" ∧ (parseMethodDescriptor yX6_polynomial.desc).map (fun d => d.parameters.length) = some 3 := by decide +kernel
theorem lk_10_53 : LkV 10 53 yX6_polynomial cX6_polynomial 4 3 (some .long) := ⟨tb_in 392 (by decide +kernel) (by decide +kernel), im_X6_polynomial, se_X6_polynomial, ini_6, cd_X6_polynomial, pd_X6_polynomial⟩
set_option maxRecDepth 20000 in
theorem cd_X6_findPolynomial : Cond.code yX6_findPolynomial cX6_findPolynomial 2 (some .boolean) ∈ tbl := tb_in 399 rfl rfl
theorem im_X6_findPolynomial : Cond.instanceMethod yX6_findPolynomial ∈ tbl := tb_in 398 (by decide +kernel) (by decide +kernel)
theorem se_X6_findPolynomial : Cond.selects yX6_findPolynomial.cls yX6_findPolynomial yX6_findPolynomial ∈ tbl := tb_in 6 (by decide +kernel) (by decide +kernel)
theorem pd_X6_findPolynomial : yX6_findPolynomial.cls ≠ "java/lang/invoke/MethodHandle" ∧ yX6_findPolynomial.cls ≠ "java/lang/invoke/VarHandle" ∧ (parseMethodDescriptor yX6_findPolynomial.desc).map (fun d => d.parameters.length) = some 1 := by decide +kernel
theorem lk_6_119 : LkV 6 119 yX6_findPolynomial cX6_findPolynomial 2 1 (some .boolean) := ⟨tb_in 396 (by decide +kernel) (by decide +kernel), im_X6_findPolynomial, se_X6_findPolynomial, ini_6, cd_X6_findPolynomial, pd_X6_findPolynomial⟩
set_option maxRecDepth 20000 in
theorem cd_X0_hasPolynomial : Cond.code yX0_hasPolynomial cX0_hasPolynomial 2 (some .boolean) ∈ tbl := tb_in 403 rfl rfl
theorem im_X0_hasPolynomial : Cond.instanceMethod yX0_hasPolynomial ∈ tbl := tb_in 401 (by decide +kernel) (by decide +kernel)
theorem se_X0_hasPolynomial : Cond.selects yX0_hasPolynomial.cls yX0_hasPolynomial yX0_hasPolynomial ∈ tbl := tb_in 402 (by decide +kernel) (by decide +kernel)
theorem pd_X0_hasPolynomial : yX0_hasPolynomial.cls ≠ "java/lang/invoke/MethodHandle" ∧ yX0_hasPolynomial.cls ≠ "java/lang/invoke/VarHandle" ∧ (parseMethodDescriptor yX0_hasPolynomial.desc).map (fun d => d.parameters.length) = some 1 := by decide +kernel
theorem lk_6_216 : LkV 6 216 yX0_hasPolynomial cX0_hasPolynomial 2 1 (some .boolean) := ⟨tb_in 400 (by decide +kernel) (by decide +kernel), im_X0_hasPolynomial, se_X0_hasPolynomial, ini_0, cd_X0_hasPolynomial, pd_X0_hasPolynomial⟩
theorem lk_0_46 : LkV 0 46 yX0_det cX0_det 2 1 (some .long) := ⟨tb_in 404 (by decide +kernel) (by decide +kernel), im_X0_det, se_X0_det, ini_0, cd_X0_det, pd_X0_det⟩
set_option maxRecDepth 20000 in
theorem cd_X0_coefficient : Cond.code yX0_coefficient cX0_coefficient 5 (some .long) ∈ tbl := tb_in 408 rfl rfl
theorem im_X0_coefficient : Cond.instanceMethod yX0_coefficient ∈ tbl := tb_in 406 (by decide +kernel) (by decide +kernel)
theorem se_X0_coefficient : Cond.selects yX0_coefficient.cls yX0_coefficient yX0_coefficient ∈ tbl := tb_in 407 (by decide +kernel) (by decide +kernel)
theorem pd_X0_coefficient : yX0_coefficient.cls ≠ "java/lang/invoke/MethodHandle" ∧ yX0_coefficient.cls ≠ "java/lang/invoke/VarHandle" ∧ (parseMethodDescriptor yX0_coefficient.desc).map (fun d => d.parameters.length) = some 2 := by decide +kernel
theorem lk_6_123 : LkV 6 123 yX0_coefficient cX0_coefficient 5 2 (some .long) := ⟨tb_in 405 (by decide +kernel) (by decide +kernel), im_X0_coefficient, se_X0_coefficient, ini_0, cd_X0_coefficient, pd_X0_coefficient⟩
set_option maxRecDepth 20000 in
theorem cd_X6_part : Cond.code yX6_part cX6_part 7 (some .long) ∈ tbl := tb_in 411 rfl rfl
theorem sa_X6_part : Cond.static yX6_part ∈ tbl := tb_in 410 (by decide +kernel) (by decide +kernel)
theorem pd_X6_part : yX6_part.cls ≠ "java/lang/invoke/MethodHandle" ∧ yX6_part.cls ≠ "java/lang/invoke/VarHandle" ∧ (parseMethodDescriptor yX6_part.desc).map (fun d => d.parameters.length) = some 3 := by decide +kernel
theorem lk_6_127 : LkS 6 127 yX6_part cX6_part 7 3 (some .long) := ⟨tb_in 409 (by decide +kernel) (by decide +kernel), sa_X6_part, ini_6, cd_X6_part, pd_X6_part⟩
set_option maxRecDepth 20000 in
theorem cd_J9_abs_067f4 : Cond.code yJ9_abs_067f4 cJ9_abs_067f4 2 (some .long) ∈ tbl := tb_in 414 rfl rfl
theorem sa_J9_abs_067f4 : Cond.static yJ9_abs_067f4 ∈ tbl := tb_in 413 (by decide +kernel) (by decide +kernel)
theorem pd_J9_abs_067f4 : yJ9_abs_067f4.cls ≠ "java/lang/invoke/MethodHandle" ∧ yJ9_abs_067f4.cls ≠ "java/lang/invoke/VarHandle" ∧ (parseMethodDescriptor yJ9_abs_067f4.desc).map (fun d => d.parameters.length) = some 1 := by decide +kernel
theorem lk_6_248 : LkS 6 248 yJ9_abs_067f4 cJ9_abs_067f4 2 1 (some .long) := ⟨tb_in 412 (by decide +kernel) (by decide +kernel), sa_J9_abs_067f4, ini_9, cd_J9_abs_067f4, pd_J9_abs_067f4⟩
set_option maxRecDepth 20000 in
theorem cd_X6_commonDivisor : Cond.code yX6_commonDivisor cX6_commonDivisor 11 (some .long) ∈ tbl := tb_in 417 rfl rfl
theorem sa_X6_commonDivisor : Cond.static yX6_commonDivisor ∈ tbl := tb_in 416 (by decide +kernel) (by decide +kernel)
theorem pd_X6_commonDivisor : yX6_commonDivisor.cls ≠ "java/lang/invoke/MethodHandle" ∧ yX6_commonDivisor.cls ≠ "java/lang/invoke/VarHandle" ∧ (parseMethodDescriptor yX6_commonDivisor.desc).map (fun d => d.parameters.length) = some 2 := by decide +kernel
theorem lk_6_254 : LkS 6 254 yX6_commonDivisor cX6_commonDivisor 11 2 (some .long) := ⟨tb_in 415 (by decide +kernel) (by decide +kernel), sa_X6_commonDivisor, ini_6, cd_X6_commonDivisor, pd_X6_commonDivisor⟩
set_option maxRecDepth 20000 in
theorem cd_X6_norm : Cond.code yX6_norm cX6_norm 3 (some .long) ∈ tbl := tb_in 421 rfl rfl
theorem im_X6_norm : Cond.instanceMethod yX6_norm ∈ tbl := tb_in 419 (by decide +kernel) (by decide +kernel)
theorem se_X6_norm : Cond.selects yX6_norm.cls yX6_norm yX6_norm ∈ tbl := tb_in 420 (by decide +kernel) (by decide +kernel)
theorem pd_X6_norm : yX6_norm.cls ≠ "java/lang/invoke/MethodHandle" ∧ yX6_norm.cls ≠ "java/lang/invoke/VarHandle" ∧ (parseMethodDescriptor yX6_norm.desc).map (fun d => d.parameters.length) = some 2 := by decide +kernel
theorem lk_10_58 : LkV 10 58 yX6_norm cX6_norm 3 2 (some .long) := ⟨tb_in 418 (by decide +kernel) (by decide +kernel), im_X6_norm, se_X6_norm, ini_6, cd_X6_norm, pd_X6_norm⟩
set_option maxRecDepth 20000 in
theorem cd_X6_rule : Cond.code yX6_rule cX6_rule 10 (some .long) ∈ tbl := tb_in 425 rfl rfl
theorem im_X6_rule : Cond.instanceMethod yX6_rule ∈ tbl := tb_in 423 (by decide +kernel) (by decide +kernel)
theorem se_X6_rule : Cond.selects yX6_rule.cls yX6_rule yX6_rule ∈ tbl := tb_in 424 (by decide +kernel) (by decide +kernel)
theorem pd_X6_rule : yX6_rule.cls ≠ "java/lang/invoke/MethodHandle" ∧ yX6_rule.cls ≠ "java/lang/invoke/VarHandle" ∧ (parseMethodDescriptor yX6_rule.desc).map (fun d => d.parameters.length) = some 3 := by decide +kernel
theorem lk_10_62 : LkV 10 62 yX6_rule cX6_rule 10 3 (some .long) := ⟨tb_in 422 (by decide +kernel) (by decide +kernel), im_X6_rule, se_X6_rule, ini_6, cd_X6_rule, pd_X6_rule⟩
set_option maxRecDepth 20000 in
theorem cd_X6_findRule : Cond.code yX6_findRule cX6_findRule 2 (some .boolean) ∈ tbl := tb_in 429 rfl rfl
theorem im_X6_findRule : Cond.instanceMethod yX6_findRule ∈ tbl := tb_in 428 (by decide +kernel) (by decide +kernel)
theorem se_X6_findRule : Cond.selects yX6_findRule.cls yX6_findRule yX6_findRule ∈ tbl := tb_in 7 (by decide +kernel) (by decide +kernel)
theorem pd_X6_findRule : yX6_findRule.cls ≠ "java/lang/invoke/MethodHandle" ∧ yX6_findRule.cls ≠ "java/lang/invoke/VarHandle" ∧ (parseMethodDescriptor yX6_findRule.desc).map (fun d => d.parameters.length) = some 1 := by decide +kernel
theorem lk_6_131 : LkV 6 131 yX6_findRule cX6_findRule 2 1 (some .boolean) := ⟨tb_in 426 (by decide +kernel) (by decide +kernel), im_X6_findRule, se_X6_findRule, ini_6, cd_X6_findRule, pd_X6_findRule⟩
set_option maxRecDepth 20000 in
theorem cd_X6_verdict : Cond.code yX6_verdict cX6_verdict 2 (some .int) ∈ tbl := tb_in 433 rfl rfl
theorem im_X6_verdict : Cond.instanceMethod yX6_verdict ∈ tbl := tb_in 431 (by decide +kernel) (by decide +kernel)
theorem se_X6_verdict : Cond.selects yX6_verdict.cls yX6_verdict yX6_verdict ∈ tbl := tb_in 432 (by decide +kernel) (by decide +kernel)
theorem pd_X6_verdict : yX6_verdict.cls ≠ "java/lang/invoke/MethodHandle" ∧ yX6_verdict.cls ≠ "java/lang/invoke/VarHandle" ∧ (parseMethodDescriptor yX6_verdict.desc).map (fun d => d.parameters.length) = some 1 := by decide +kernel
theorem lk_10_66 : LkV 10 66 yX6_verdict cX6_verdict 2 1 (some .int) := ⟨tb_in 430 (by decide +kernel) (by decide +kernel), im_X6_verdict, se_X6_verdict, ini_6, cd_X6_verdict, pd_X6_verdict⟩
set_option maxRecDepth 20000 in
theorem cd_X6_judge : Cond.code yX6_judge cX6_judge 3 none ∈ tbl := tb_in 437 rfl rfl
theorem im_X6_judge : Cond.instanceMethod yX6_judge ∈ tbl := tb_in 436 (by decide +kernel) (by decide +kernel)
theorem se_X6_judge : Cond.selects yX6_judge.cls yX6_judge yX6_judge ∈ tbl := tb_in 8 (by decide +kernel) (by decide +kernel)
theorem pd_X6_judge : yX6_judge.cls ≠ "java/lang/invoke/MethodHandle" ∧ yX6_judge.cls ≠ "java/lang/invoke/VarHandle" ∧ (parseMethodDescriptor yX6_judge.desc).map (fun d => d.parameters.length) = some 0 := by decide +kernel
theorem lk_6_134 : LkV 6 134 yX6_judge cX6_judge 3 0 none := ⟨tb_in 434 (by decide +kernel) (by decide +kernel), im_X6_judge, se_X6_judge, ini_6, cd_X6_judge, pd_X6_judge⟩
set_option maxRecDepth 20000 in
theorem cd_X6_find : Cond.code yX6_find cX6_find 5 none ∈ tbl := tb_in 442 rfl rfl
theorem im_X6_find : Cond.instanceMethod yX6_find ∈ tbl := tb_in 441 (by decide +kernel) (by decide +kernel)
theorem se_X6_find : Cond.selects yX6_find.cls yX6_find yX6_find ∈ tbl := tb_in 9 (by decide +kernel) (by decide +kernel)
theorem pd_X6_find : yX6_find.cls ≠ "java/lang/invoke/MethodHandle" ∧ yX6_find.cls ≠ "java/lang/invoke/VarHandle" ∧ (parseMethodDescriptor yX6_find.desc).map (fun d => d.parameters.length) = some 4 := by decide +kernel
theorem lk_6_236 : LkV 6 236 yX6_find cX6_find 5 4 none := ⟨tb_in 439 (by decide +kernel) (by decide +kernel), im_X6_find, se_X6_find, ini_6, cd_X6_find, pd_X6_find⟩
set_option maxRecDepth 20000 in
theorem cd_X6_findRest : Cond.code yX6_findRest cX6_findRest 3 (some .int) ∈ tbl := tb_in 446 rfl rfl
theorem im_X6_findRest : Cond.instanceMethod yX6_findRest ∈ tbl := tb_in 445 (by decide +kernel) (by decide +kernel)
theorem se_X6_findRest : Cond.selects yX6_findRest.cls yX6_findRest yX6_findRest ∈ tbl := tb_in 10 (by decide +kernel) (by decide +kernel)
theorem pd_X6_findRest : yX6_findRest.cls ≠ "java/lang/invoke/MethodHandle" ∧ yX6_findRest.cls ≠ "java/lang/invoke/VarHandle" ∧ (parseMethodDescriptor yX6_findRest.desc).map (fun d => d.parameters.length) = some 1 := by decide +kernel
theorem lk_6_240 : LkV 6 240 yX6_findRest cX6_findRest 3 1 (some .int) := ⟨tb_in 443 (by decide +kernel) (by decide +kernel), im_X6_findRest, se_X6_findRest, ini_6, cd_X6_findRest, pd_X6_findRest⟩
set_option maxRecDepth 20000 in
theorem cd_X0_meanTimesPower : Cond.code yX0_meanTimesPower cX0_meanTimesPower 7 (some .long) ∈ tbl := tb_in 450 rfl rfl
theorem im_X0_meanTimesPower : Cond.instanceMethod yX0_meanTimesPower ∈ tbl := tb_in 448 (by decide +kernel) (by decide +kernel)
theorem se_X0_meanTimesPower : Cond.selects yX0_meanTimesPower.cls yX0_meanTimesPower yX0_meanTimesPower ∈ tbl := tb_in 449 (by decide +kernel) (by decide +kernel)
theorem pd_X0_meanTimesPower : yX0_meanTimesPower.cls ≠ "java/lang/invoke/MethodHandle" ∧ yX0_meanTimesPower.cls ≠ "java/lang/invoke/VarHandle" ∧ (parseMethodDescriptor yX0_meanTimesPower.desc).map (fun d => d.parameters.length) = some 3 := by decide +kernel
theorem lk_6_243 : LkV 6 243 yX0_meanTimesPower cX0_meanTimesPower 7 3 (some .long) := ⟨tb_in 447 (by decide +kernel) (by decide +kernel), im_X0_meanTimesPower, se_X0_meanTimesPower, ini_0, cd_X0_meanTimesPower, pd_X0_meanTimesPower⟩
theorem lk_0_49 : LkV 0 49 yX0_coefficient cX0_coefficient 5 2 (some .long) := ⟨tb_in 451 (by decide +kernel) (by decide +kernel), im_X0_coefficient, se_X0_coefficient, ini_0, cd_X0_coefficient, pd_X0_coefficient⟩
set_option maxRecDepth 20000 in
theorem cd_X6_value : Cond.code yX6_value cX6_value 5 (some .long) ∈ tbl := tb_in 455 rfl rfl
theorem im_X6_value : Cond.instanceMethod yX6_value ∈ tbl := tb_in 453 (by decide +kernel) (by decide +kernel)
theorem se_X6_value : Cond.selects yX6_value.cls yX6_value yX6_value ∈ tbl := tb_in 454 (by decide +kernel) (by decide +kernel)
theorem pd_X6_value : yX6_value.cls ≠ "java/lang/invoke/MethodHandle" ∧ yX6_value.cls ≠ "java/lang/invoke/VarHandle" ∧ (parseMethodDescriptor yX6_value.desc).map (fun d => d.parameters.length) = some 4 := by decide +kernel
theorem lk_10_70 : LkV 10 70 yX6_value cX6_value 5 4 (some .long) := ⟨tb_in 452 (by decide +kernel) (by decide +kernel), im_X6_value, se_X6_value, ini_6, cd_X6_value, pd_X6_value⟩
set_option maxRecDepth 20000 in
theorem cd_X6_isNoPoint : Cond.code yX6_isNoPoint cX6_isNoPoint 2 (some .boolean) ∈ tbl := tb_in 458 rfl rfl
theorem sa_X6_isNoPoint : Cond.static yX6_isNoPoint ∈ tbl := tb_in 457 (by decide +kernel) (by decide +kernel)
theorem pd_X6_isNoPoint : yX6_isNoPoint.cls ≠ "java/lang/invoke/MethodHandle" ∧ yX6_isNoPoint.cls ≠ "java/lang/invoke/VarHandle" ∧ (parseMethodDescriptor yX6_isNoPoint.desc).map (fun d => d.parameters.length) = some 2 := by decide +kernel
theorem lk_6_137 : LkS 6 137 yX6_isNoPoint cX6_isNoPoint 2 2 (some .boolean) := ⟨tb_in 456 (by decide +kernel) (by decide +kernel), sa_X6_isNoPoint, ini_6, cd_X6_isNoPoint, pd_X6_isNoPoint⟩
set_option maxRecDepth 20000 in
theorem cd_X0_evaluate : Cond.code yX0_evaluate cX0_evaluate 9 (some .long) ∈ tbl := tb_in 462 rfl rfl
theorem im_X0_evaluate : Cond.instanceMethod yX0_evaluate ∈ tbl := tb_in 460 (by decide +kernel) (by decide +kernel)
theorem se_X0_evaluate : Cond.selects yX0_evaluate.cls yX0_evaluate yX0_evaluate ∈ tbl := tb_in 461 (by decide +kernel) (by decide +kernel)
theorem pd_X0_evaluate : yX0_evaluate.cls ≠ "java/lang/invoke/MethodHandle" ∧ yX0_evaluate.cls ≠ "java/lang/invoke/VarHandle" ∧ (parseMethodDescriptor yX0_evaluate.desc).map (fun d => d.parameters.length) = some 3 := by decide +kernel
theorem lk_6_140 : LkV 6 140 yX0_evaluate cX0_evaluate 9 3 (some .long) := ⟨tb_in 459 (by decide +kernel) (by decide +kernel), im_X0_evaluate, se_X0_evaluate, ini_0, cd_X0_evaluate, pd_X0_evaluate⟩
set_option maxRecDepth 20000 in
theorem cd_X6_power : Cond.code yX6_power cX6_power 6 (some .long) ∈ tbl := tb_in 465 rfl rfl
theorem sa_X6_power : Cond.static yX6_power ∈ tbl := tb_in 464 (by decide +kernel) (by decide +kernel)
theorem pd_X6_power : yX6_power.cls ≠ "java/lang/invoke/MethodHandle" ∧ yX6_power.cls ≠ "java/lang/invoke/VarHandle" ∧ (parseMethodDescriptor yX6_power.desc).map (fun d => d.parameters.length) = some 2 := by decide +kernel
theorem lk_6_144 : LkS 6 144 yX6_power cX6_power 6 2 (some .long) := ⟨tb_in 463 (by decide +kernel) (by decide +kernel), sa_X6_power, ini_6, cd_X6_power, pd_X6_power⟩
set_option maxRecDepth 20000 in
theorem cd_X6_under : Cond.code yX6_under cX6_under 4 (some .int) ∈ tbl := tb_in 469 rfl rfl
theorem im_X6_under : Cond.instanceMethod yX6_under ∈ tbl := tb_in 467 (by decide +kernel) (by decide +kernel)
theorem se_X6_under : Cond.selects yX6_under.cls yX6_under yX6_under ∈ tbl := tb_in 468 (by decide +kernel) (by decide +kernel)
theorem pd_X6_under : yX6_under.cls ≠ "java/lang/invoke/MethodHandle" ∧ yX6_under.cls ≠ "java/lang/invoke/VarHandle" ∧ (parseMethodDescriptor yX6_under.desc).map (fun d => d.parameters.length) = some 3 := by decide +kernel
theorem lk_10_75 : LkV 10 75 yX6_under cX6_under 4 3 (some .int) := ⟨tb_in 466 (by decide +kernel) (by decide +kernel), im_X6_under, se_X6_under, ini_6, cd_X6_under, pd_X6_under⟩
set_option maxRecDepth 20000 in
theorem cd_X6_findZeros : Cond.code yX6_findZeros cX6_findZeros 3 (some .boolean) ∈ tbl := tb_in 473 rfl rfl
theorem im_X6_findZeros : Cond.instanceMethod yX6_findZeros ∈ tbl := tb_in 472 (by decide +kernel) (by decide +kernel)
theorem se_X6_findZeros : Cond.selects yX6_findZeros.cls yX6_findZeros yX6_findZeros ∈ tbl := tb_in 11 (by decide +kernel) (by decide +kernel)
theorem pd_X6_findZeros : yX6_findZeros.cls ≠ "java/lang/invoke/MethodHandle" ∧ yX6_findZeros.cls ≠ "java/lang/invoke/VarHandle" ∧ (parseMethodDescriptor yX6_findZeros.desc).map (fun d => d.parameters.length) = some 1 := by decide +kernel
theorem lk_6_148 : LkV 6 148 yX6_findZeros cX6_findZeros 3 1 (some .boolean) := ⟨tb_in 470 (by decide +kernel) (by decide +kernel), im_X6_findZeros, se_X6_findZeros, ini_6, cd_X6_findZeros, pd_X6_findZeros⟩
set_option maxRecDepth 20000 in
theorem cd_X0_zerosBelow : Cond.code yX0_zerosBelow cX0_zerosBelow 8 (some .int) ∈ tbl := tb_in 477 rfl rfl
theorem im_X0_zerosBelow : Cond.instanceMethod yX0_zerosBelow ∈ tbl := tb_in 475 (by decide +kernel) (by decide +kernel)
theorem se_X0_zerosBelow : Cond.selects yX0_zerosBelow.cls yX0_zerosBelow yX0_zerosBelow ∈ tbl := tb_in 476 (by decide +kernel) (by decide +kernel)
theorem pd_X0_zerosBelow : yX0_zerosBelow.cls ≠ "java/lang/invoke/MethodHandle" ∧ yX0_zerosBelow.cls ≠ "java/lang/invoke/VarHandle" ∧ (parseMethodDescriptor yX0_zerosBelow.desc).map (fun d => d.parameters.length) = some 3 := by decide +kernel
theorem lk_6_151 : LkV 6 151 yX0_zerosBelow cX0_zerosBelow 8 3 (some .int) := ⟨tb_in 474 (by decide +kernel) (by decide +kernel), im_X0_zerosBelow, se_X0_zerosBelow, ini_0, cd_X0_zerosBelow, pd_X0_zerosBelow⟩
theorem lk_0_57 : LkV 0 57 yX0_evaluate cX0_evaluate 9 3 (some .long) := ⟨tb_in 478 (by decide +kernel) (by decide +kernel), im_X0_evaluate, se_X0_evaluate, ini_0, cd_X0_evaluate, pd_X0_evaluate⟩
set_option maxRecDepth 20000 in
theorem cd_X6_signOf : Cond.code yX6_signOf cX6_signOf 2 (some .int) ∈ tbl := tb_in 481 rfl rfl
theorem sa_X6_signOf : Cond.static yX6_signOf ∈ tbl := tb_in 480 (by decide +kernel) (by decide +kernel)
theorem pd_X6_signOf : yX6_signOf.cls ≠ "java/lang/invoke/MethodHandle" ∧ yX6_signOf.cls ≠ "java/lang/invoke/VarHandle" ∧ (parseMethodDescriptor yX6_signOf.desc).map (fun d => d.parameters.length) = some 1 := by decide +kernel
theorem lk_0_61 : LkN 0 61 yX6_signOf cX6_signOf 2 1 (some .int) := ⟨by decide +kernel, sa_X6_signOf, ini_6, cd_X6_signOf, pd_X6_signOf⟩
set_option maxRecDepth 20000 in
theorem cd_X6_zero : Cond.code yX6_zero cX6_zero 4 (some .int) ∈ tbl := tb_in 485 rfl rfl
theorem im_X6_zero : Cond.instanceMethod yX6_zero ∈ tbl := tb_in 483 (by decide +kernel) (by decide +kernel)
theorem se_X6_zero : Cond.selects yX6_zero.cls yX6_zero yX6_zero ∈ tbl := tb_in 484 (by decide +kernel) (by decide +kernel)
theorem pd_X6_zero : yX6_zero.cls ≠ "java/lang/invoke/MethodHandle" ∧ yX6_zero.cls ≠ "java/lang/invoke/VarHandle" ∧ (parseMethodDescriptor yX6_zero.desc).map (fun d => d.parameters.length) = some 3 := by decide +kernel
theorem lk_10_80 : LkV 10 80 yX6_zero cX6_zero 4 3 (some .int) := ⟨tb_in 482 (by decide +kernel) (by decide +kernel), im_X6_zero, se_X6_zero, ini_6, cd_X6_zero, pd_X6_zero⟩
set_option maxRecDepth 20000 in
theorem cd_X6_enclose : Cond.code yX6_enclose cX6_enclose 8 (some .int) ∈ tbl := tb_in 489 rfl rfl
theorem im_X6_enclose : Cond.instanceMethod yX6_enclose ∈ tbl := tb_in 488 (by decide +kernel) (by decide +kernel)
theorem se_X6_enclose : Cond.selects yX6_enclose.cls yX6_enclose yX6_enclose ∈ tbl := tb_in 12 (by decide +kernel) (by decide +kernel)
theorem pd_X6_enclose : yX6_enclose.cls ≠ "java/lang/invoke/MethodHandle" ∧ yX6_enclose.cls ≠ "java/lang/invoke/VarHandle" ∧ (parseMethodDescriptor yX6_enclose.desc).map (fun d => d.parameters.length) = some 3 := by decide +kernel
theorem lk_6_155 : LkV 6 155 yX6_enclose cX6_enclose 8 3 (some .int) := ⟨tb_in 486 (by decide +kernel) (by decide +kernel), im_X6_enclose, se_X6_enclose, ini_6, cd_X6_enclose, pd_X6_enclose⟩
set_option maxRecDepth 20000 in
theorem cd_X6_weight : Cond.code yX6_weight cX6_weight 4 (some .long) ∈ tbl := tb_in 493 rfl rfl
theorem im_X6_weight : Cond.instanceMethod yX6_weight ∈ tbl := tb_in 491 (by decide +kernel) (by decide +kernel)
theorem se_X6_weight : Cond.selects yX6_weight.cls yX6_weight yX6_weight ∈ tbl := tb_in 492 (by decide +kernel) (by decide +kernel)
theorem pd_X6_weight : yX6_weight.cls ≠ "java/lang/invoke/MethodHandle" ∧ yX6_weight.cls ≠ "java/lang/invoke/VarHandle" ∧ (parseMethodDescriptor yX6_weight.desc).map (fun d => d.parameters.length) = some 3 := by decide +kernel
theorem lk_10_84 : LkV 10 84 yX6_weight cX6_weight 4 3 (some .long) := ⟨tb_in 490 (by decide +kernel) (by decide +kernel), im_X6_weight, se_X6_weight, ini_6, cd_X6_weight, pd_X6_weight⟩
set_option maxRecDepth 20000 in
theorem cd_X6_isNoSet : Cond.code yX6_isNoSet cX6_isNoSet 1 (some .boolean) ∈ tbl := tb_in 496 rfl rfl
theorem sa_X6_isNoSet : Cond.static yX6_isNoSet ∈ tbl := tb_in 495 (by decide +kernel) (by decide +kernel)
theorem pd_X6_isNoSet : yX6_isNoSet.cls ≠ "java/lang/invoke/MethodHandle" ∧ yX6_isNoSet.cls ≠ "java/lang/invoke/VarHandle" ∧ (parseMethodDescriptor yX6_isNoSet.desc).map (fun d => d.parameters.length) = some 1 := by decide +kernel
theorem lk_6_158 : LkS 6 158 yX6_isNoSet cX6_isNoSet 1 1 (some .boolean) := ⟨tb_in 494 (by decide +kernel) (by decide +kernel), sa_X6_isNoSet, ini_6, cd_X6_isNoSet, pd_X6_isNoSet⟩
theorem lk_6_164 : LkS 6 164 yJ6_bitCount_0f7a4 cJ6_bitCount_0f7a4 1 1 (some .int) := ⟨tb_in 498 (by decide +kernel) (by decide +kernel), sa_J6_bitCount_0f7a4, ini_8, cd_J6_bitCount_0f7a4, pd_J6_bitCount_0f7a4⟩
set_option maxRecDepth 20000 in
theorem cd_X6_bitOf : Cond.code yX6_bitOf cX6_bitOf 1 (some .int) ∈ tbl := tb_in 501 rfl rfl
theorem sa_X6_bitOf : Cond.static yX6_bitOf ∈ tbl := tb_in 500 (by decide +kernel) (by decide +kernel)
theorem pd_X6_bitOf : yX6_bitOf.cls ≠ "java/lang/invoke/MethodHandle" ∧ yX6_bitOf.cls ≠ "java/lang/invoke/VarHandle" ∧ (parseMethodDescriptor yX6_bitOf.desc).map (fun d => d.parameters.length) = some 1 := by decide +kernel
theorem lk_6_161 : LkS 6 161 yX6_bitOf cX6_bitOf 1 1 (some .int) := ⟨tb_in 499 (by decide +kernel) (by decide +kernel), sa_X6_bitOf, ini_6, cd_X6_bitOf, pd_X6_bitOf⟩
set_option maxRecDepth 20000 in
theorem cd_X1_vanishAt : Cond.code yX1_vanishAt cX1_vanishAt 3 none ∈ tbl := tb_in 505 rfl rfl
theorem im_X1_vanishAt : Cond.instanceMethod yX1_vanishAt ∈ tbl := tb_in 503 (by decide +kernel) (by decide +kernel)
theorem se_X1_vanishAt : Cond.selects yX1_vanishAt.cls yX1_vanishAt yX1_vanishAt ∈ tbl := tb_in 504 (by decide +kernel) (by decide +kernel)
theorem pd_X1_vanishAt : yX1_vanishAt.cls ≠ "java/lang/invoke/MethodHandle" ∧ yX1_vanishAt.cls ≠ "java/lang/invoke/VarHandle" ∧ (parseMethodDescriptor yX1_vanishAt.desc).map (fun d => d.parameters.length) = some 1 := by decide +kernel
theorem lk_6_169 : LkV 6 169 yX1_vanishAt cX1_vanishAt 3 1 none := ⟨tb_in 502 (by decide +kernel) (by decide +kernel), im_X1_vanishAt, se_X1_vanishAt, ini_1, cd_X1_vanishAt, pd_X1_vanishAt⟩
theorem lk_1_23 : LkV 1 23 yX1_begin cX1_begin 1 0 none := ⟨tb_in 506 (by decide +kernel) (by decide +kernel), im_X1_begin, se_X1_begin, ini_1, cd_X1_begin, pd_X1_begin⟩
theorem lk_1_26 : LkN 1 26 yX6_bitOf cX6_bitOf 1 1 (some .int) := ⟨by decide +kernel, sa_X6_bitOf, ini_6, cd_X6_bitOf, pd_X6_bitOf⟩
theorem lk_1_30 : LkV 1 30 yX1_times cX1_times 3 1 none := ⟨tb_in 508 (by decide +kernel) (by decide +kernel), im_X1_times, se_X1_times, ini_1, cd_X1_times, pd_X1_times⟩
theorem lk_6_173 : LkV 6 173 yX3_mean cX3_mean 6 2 (some .long) := ⟨tb_in 509 (by decide +kernel) (by decide +kernel), im_X3_mean, se_X3_mean, ini_3, cd_X3_mean, pd_X3_mean⟩
set_option maxRecDepth 20000 in
theorem cd_X1_evaluate : Cond.code yX1_evaluate cX1_evaluate 5 (some .long) ∈ tbl := tb_in 513 rfl rfl
theorem im_X1_evaluate : Cond.instanceMethod yX1_evaluate ∈ tbl := tb_in 511 (by decide +kernel) (by decide +kernel)
theorem se_X1_evaluate : Cond.selects yX1_evaluate.cls yX1_evaluate yX1_evaluate ∈ tbl := tb_in 512 (by decide +kernel) (by decide +kernel)
theorem pd_X1_evaluate : yX1_evaluate.cls ≠ "java/lang/invoke/MethodHandle" ∧ yX1_evaluate.cls ≠ "java/lang/invoke/VarHandle" ∧ (parseMethodDescriptor yX1_evaluate.desc).map (fun d => d.parameters.length) = some 1 := by decide +kernel
theorem lk_6_177 : LkV 6 177 yX1_evaluate cX1_evaluate 5 1 (some .long) := ⟨tb_in 510 (by decide +kernel) (by decide +kernel), im_X1_evaluate, se_X1_evaluate, ini_1, cd_X1_evaluate, pd_X1_evaluate⟩
set_option maxRecDepth 20000 in
theorem cd_X6_exact : Cond.code yX6_exact cX6_exact 4 (some .int) ∈ tbl := tb_in 517 rfl rfl
theorem im_X6_exact : Cond.instanceMethod yX6_exact ∈ tbl := tb_in 515 (by decide +kernel) (by decide +kernel)
theorem se_X6_exact : Cond.selects yX6_exact.cls yX6_exact yX6_exact ∈ tbl := tb_in 516 (by decide +kernel) (by decide +kernel)
theorem pd_X6_exact : yX6_exact.cls ≠ "java/lang/invoke/MethodHandle" ∧ yX6_exact.cls ≠ "java/lang/invoke/VarHandle" ∧ (parseMethodDescriptor yX6_exact.desc).map (fun d => d.parameters.length) = some 1 := by decide +kernel
theorem lk_10_88 : LkV 10 88 yX6_exact cX6_exact 4 1 (some .int) := ⟨tb_in 514 (by decide +kernel) (by decide +kernel), im_X6_exact, se_X6_exact, ini_6, cd_X6_exact, pd_X6_exact⟩
set_option maxRecDepth 20000 in
theorem cd_X6_fraction : Cond.code yX6_fraction cX6_fraction 7 (some .long) ∈ tbl := tb_in 521 rfl rfl
theorem im_X6_fraction : Cond.instanceMethod yX6_fraction ∈ tbl := tb_in 519 (by decide +kernel) (by decide +kernel)
theorem se_X6_fraction : Cond.selects yX6_fraction.cls yX6_fraction yX6_fraction ∈ tbl := tb_in 520 (by decide +kernel) (by decide +kernel)
theorem pd_X6_fraction : yX6_fraction.cls ≠ "java/lang/invoke/MethodHandle" ∧ yX6_fraction.cls ≠ "java/lang/invoke/VarHandle" ∧ (parseMethodDescriptor yX6_fraction.desc).map (fun d => d.parameters.length) = some 4 := by decide +kernel
theorem lk_10_92 : LkV 10 92 yX6_fraction cX6_fraction 7 4 (some .long) := ⟨tb_in 518 (by decide +kernel) (by decide +kernel), im_X6_fraction, se_X6_fraction, ini_6, cd_X6_fraction, pd_X6_fraction⟩
set_option maxRecDepth 20000 in
theorem cd_X0_quotientMean : Cond.code yX0_quotientMean cX0_quotientMean 12 (some .long) ∈ tbl := tb_in 525 rfl rfl
theorem im_X0_quotientMean : Cond.instanceMethod yX0_quotientMean ∈ tbl := tb_in 523 (by decide +kernel) (by decide +kernel)
theorem se_X0_quotientMean : Cond.selects yX0_quotientMean.cls yX0_quotientMean yX0_quotientMean ∈ tbl := tb_in 524 (by decide +kernel) (by decide +kernel)
theorem pd_X0_quotientMean : yX0_quotientMean.cls ≠ "java/lang/invoke/MethodHandle" ∧ yX0_quotientMean.cls ≠ "java/lang/invoke/VarHandle" ∧ (parseMethodDescriptor yX0_quotientMean.desc).map (fun d => d.parameters.length) = some 4 := by decide +kernel
theorem lk_6_179 : LkV 6 179 yX0_quotientMean cX0_quotientMean 12 4 (some .long) := ⟨tb_in 522 (by decide +kernel) (by decide +kernel), im_X0_quotientMean, se_X0_quotientMean, ini_0, cd_X0_quotientMean, pd_X0_quotientMean⟩
theorem lk_0_53 : LkN 0 53 yX6_power cX6_power 6 2 (some .long) := ⟨by decide +kernel, sa_X6_power, ini_6, cd_X6_power, pd_X6_power⟩
set_option maxRecDepth 20000 in
theorem cd_X6_step : Cond.code yX6_step cX6_step 9 (some .long) ∈ tbl := tb_in 530 rfl rfl
theorem im_X6_step : Cond.instanceMethod yX6_step ∈ tbl := tb_in 528 (by decide +kernel) (by decide +kernel)
theorem se_X6_step : Cond.selects yX6_step.cls yX6_step yX6_step ∈ tbl := tb_in 529 (by decide +kernel) (by decide +kernel)
theorem pd_X6_step : yX6_step.cls ≠ "java/lang/invoke/MethodHandle" ∧ yX6_step.cls ≠ "java/lang/invoke/VarHandle" ∧ (parseMethodDescriptor yX6_step.desc).map (fun d => d.parameters.length) = some 2 := by decide +kernel
theorem lk_10_96 : LkV 10 96 yX6_step cX6_step 9 2 (some .long) := ⟨tb_in 527 (by decide +kernel) (by decide +kernel), im_X6_step, se_X6_step, ini_6, cd_X6_step, pd_X6_step⟩
set_option maxRecDepth 20000 in
theorem cd_X6_type : Cond.code yX6_type cX6_type 2 (some .int) ∈ tbl := tb_in 534 rfl rfl
theorem im_X6_type : Cond.instanceMethod yX6_type ∈ tbl := tb_in 532 (by decide +kernel) (by decide +kernel)
theorem se_X6_type : Cond.selects yX6_type.cls yX6_type yX6_type ∈ tbl := tb_in 533 (by decide +kernel) (by decide +kernel)
theorem pd_X6_type : yX6_type.cls ≠ "java/lang/invoke/MethodHandle" ∧ yX6_type.cls ≠ "java/lang/invoke/VarHandle" ∧ (parseMethodDescriptor yX6_type.desc).map (fun d => d.parameters.length) = some 1 := by decide +kernel
theorem lk_10_100 : LkV 10 100 yX6_type cX6_type 2 1 (some .int) := ⟨tb_in 531 (by decide +kernel) (by decide +kernel), im_X6_type, se_X6_type, ini_6, cd_X6_type, pd_X6_type⟩
set_option maxRecDepth 20000 in
theorem cd_X5_append : Cond.code yX5_append cX5_append 2 (some .boolean) ∈ tbl := tb_in 538 rfl rfl
theorem im_X5_append : Cond.instanceMethod yX5_append ∈ tbl := tb_in 536 (by decide +kernel) (by decide +kernel)
theorem se_X5_append : Cond.selects yX5_append.cls yX5_append yX5_append ∈ tbl := tb_in 537 (by decide +kernel) (by decide +kernel)
theorem pd_X5_append : yX5_append.cls ≠ "java/lang/invoke/MethodHandle" ∧ yX5_append.cls ≠ "java/lang/invoke/VarHandle" ∧ (parseMethodDescriptor yX5_append.desc).map (fun d => d.parameters.length) = some 1 := by decide +kernel
theorem lk_6_183 : LkV 6 183 yX5_append cX5_append 2 1 (some .boolean) := ⟨tb_in 535 (by decide +kernel) (by decide +kernel), im_X5_append, se_X5_append, ini_5, cd_X5_append, pd_X5_append⟩
set_option maxRecDepth 20000 in
theorem cd_X5_length : Cond.code yX5_length cX5_length 1 (some .int) ∈ tbl := tb_in 543 rfl rfl
theorem im_X5_length : Cond.instanceMethod yX5_length ∈ tbl := tb_in 541 (by decide +kernel) (by decide +kernel)
theorem se_X5_length : Cond.selects yX5_length.cls yX5_length yX5_length ∈ tbl := tb_in 542 (by decide +kernel) (by decide +kernel)
theorem pd_X5_length : yX5_length.cls ≠ "java/lang/invoke/MethodHandle" ∧ yX5_length.cls ≠ "java/lang/invoke/VarHandle" ∧ (parseMethodDescriptor yX5_length.desc).map (fun d => d.parameters.length) = some 0 := by decide +kernel
theorem lk_6_186 : LkV 6 186 yX5_length cX5_length 1 0 (some .int) := ⟨tb_in 540 (by decide +kernel) (by decide +kernel), im_X5_length, se_X5_length, ini_5, cd_X5_length, pd_X5_length⟩
set_option maxRecDepth 20000 in
theorem cd_X6_clear : Cond.code yX6_clear cX6_clear 2 (some .int) ∈ tbl := tb_in 547 rfl rfl
theorem im_X6_clear : Cond.instanceMethod yX6_clear ∈ tbl := tb_in 545 (by decide +kernel) (by decide +kernel)
theorem se_X6_clear : Cond.selects yX6_clear.cls yX6_clear yX6_clear ∈ tbl := tb_in 546 (by decide +kernel) (by decide +kernel)
theorem pd_X6_clear : yX6_clear.cls ≠ "java/lang/invoke/MethodHandle" ∧ yX6_clear.cls ≠ "java/lang/invoke/VarHandle" ∧ (parseMethodDescriptor yX6_clear.desc).map (fun d => d.parameters.length) = some 0 := by decide +kernel
theorem lk_10_104 : LkV 10 104 yX6_clear cX6_clear 2 0 (some .int) := ⟨tb_in 544 (by decide +kernel) (by decide +kernel), im_X6_clear, se_X6_clear, ini_6, cd_X6_clear, pd_X6_clear⟩
set_option maxRecDepth 20000 in
theorem cd_X5_empty : Cond.code yX5_empty cX5_empty 1 none ∈ tbl := tb_in 551 rfl rfl
theorem im_X5_empty : Cond.instanceMethod yX5_empty ∈ tbl := tb_in 549 (by decide +kernel) (by decide +kernel)
theorem se_X5_empty : Cond.selects yX5_empty.cls yX5_empty yX5_empty ∈ tbl := tb_in 550 (by decide +kernel) (by decide +kernel)
theorem pd_X5_empty : yX5_empty.cls ≠ "java/lang/invoke/MethodHandle" ∧ yX5_empty.cls ≠ "java/lang/invoke/VarHandle" ∧ (parseMethodDescriptor yX5_empty.desc).map (fun d => d.parameters.length) = some 0 := by decide +kernel
theorem lk_6_189 : LkV 6 189 yX5_empty cX5_empty 1 0 none := ⟨tb_in 548 (by decide +kernel) (by decide +kernel), im_X5_empty, se_X5_empty, ini_5, cd_X5_empty, pd_X5_empty⟩
set_option maxRecDepth 20000 in
theorem cd_X6_reads : Cond.code yX6_reads cX6_reads 3 (some .int) ∈ tbl := tb_in 555 rfl rfl
theorem im_X6_reads : Cond.instanceMethod yX6_reads ∈ tbl := tb_in 553 (by decide +kernel) (by decide +kernel)
theorem se_X6_reads : Cond.selects yX6_reads.cls yX6_reads yX6_reads ∈ tbl := tb_in 554 (by decide +kernel) (by decide +kernel)
theorem pd_X6_reads : yX6_reads.cls ≠ "java/lang/invoke/MethodHandle" ∧ yX6_reads.cls ≠ "java/lang/invoke/VarHandle" ∧ (parseMethodDescriptor yX6_reads.desc).map (fun d => d.parameters.length) = some 0 := by decide +kernel
theorem lk_10_108 : LkV 10 108 yX6_reads cX6_reads 3 0 (some .int) := ⟨tb_in 552 (by decide +kernel) (by decide +kernel), im_X6_reads, se_X6_reads, ini_6, cd_X6_reads, pd_X6_reads⟩
set_option maxRecDepth 20000 in
theorem cd_X2_scan : Cond.code yX2_scan cX2_scan 3 (some .int) ∈ tbl := tb_in 559 rfl rfl
theorem im_X2_scan : Cond.instanceMethod yX2_scan ∈ tbl := tb_in 557 (by decide +kernel) (by decide +kernel)
theorem se_X2_scan : Cond.selects yX2_scan.cls yX2_scan yX2_scan ∈ tbl := tb_in 558 (by decide +kernel) (by decide +kernel)
theorem pd_X2_scan : yX2_scan.cls ≠ "java/lang/invoke/MethodHandle" ∧ yX2_scan.cls ≠ "java/lang/invoke/VarHandle" ∧ (parseMethodDescriptor yX2_scan.desc).map (fun d => d.parameters.length) = some 1 := by decide +kernel
theorem lk_6_192 : LkV 6 192 yX2_scan cX2_scan 3 1 (some .int) := ⟨tb_in 556 (by decide +kernel) (by decide +kernel), im_X2_scan, se_X2_scan, ini_2, cd_X2_scan, pd_X2_scan⟩
set_option maxRecDepth 20000 in
theorem cd_X2_forgetNumber : Cond.code yX2_forgetNumber cX2_forgetNumber 1 none ∈ tbl := tb_in 563 rfl rfl
theorem im_X2_forgetNumber : Cond.instanceMethod yX2_forgetNumber ∈ tbl := tb_in 562 (by decide +kernel) (by decide +kernel)
theorem se_X2_forgetNumber : Cond.selects yX2_forgetNumber.cls yX2_forgetNumber yX2_forgetNumber ∈ tbl := tb_in 13 (by decide +kernel) (by decide +kernel)
theorem pd_X2_forgetNumber : yX2_forgetNumber.cls ≠ "java/lang/invoke/MethodHandle" ∧ yX2_forgetNumber.cls ≠ "java/lang/invoke/VarHandle" ∧ (parseMethodDescriptor yX2_forgetNumber.desc).map (fun d => d.parameters.length) = some 0 := by decide +kernel
theorem lk_2_31 : LkV 2 31 yX2_forgetNumber cX2_forgetNumber 1 0 none := ⟨tb_in 560 (by decide +kernel) (by decide +kernel), im_X2_forgetNumber, se_X2_forgetNumber, ini_2, cd_X2_forgetNumber, pd_X2_forgetNumber⟩
theorem lk_2_34 : LkV 2 34 yX5_length cX5_length 1 0 (some .int) := ⟨tb_in 564 (by decide +kernel) (by decide +kernel), im_X5_length, se_X5_length, ini_5, cd_X5_length, pd_X5_length⟩
set_option maxRecDepth 20000 in
theorem cd_X5_at : Cond.code yX5_at cX5_at 2 (some .int) ∈ tbl := tb_in 568 rfl rfl
theorem im_X5_at : Cond.instanceMethod yX5_at ∈ tbl := tb_in 566 (by decide +kernel) (by decide +kernel)
theorem se_X5_at : Cond.selects yX5_at.cls yX5_at yX5_at ∈ tbl := tb_in 567 (by decide +kernel) (by decide +kernel)
theorem pd_X5_at : yX5_at.cls ≠ "java/lang/invoke/MethodHandle" ∧ yX5_at.cls ≠ "java/lang/invoke/VarHandle" ∧ (parseMethodDescriptor yX5_at.desc).map (fun d => d.parameters.length) = some 1 := by decide +kernel
theorem lk_2_40 : LkV 2 40 yX5_at cX5_at 2 1 (some .int) := ⟨tb_in 565 (by decide +kernel) (by decide +kernel), im_X5_at, se_X5_at, ini_5, cd_X5_at, pd_X5_at⟩
set_option maxRecDepth 20000 in
theorem cd_X2_accept : Cond.code yX2_accept cX2_accept 2 (some .boolean) ∈ tbl := tb_in 572 rfl rfl
theorem im_X2_accept : Cond.instanceMethod yX2_accept ∈ tbl := tb_in 571 (by decide +kernel) (by decide +kernel)
theorem se_X2_accept : Cond.selects yX2_accept.cls yX2_accept yX2_accept ∈ tbl := tb_in 14 (by decide +kernel) (by decide +kernel)
theorem pd_X2_accept : yX2_accept.cls ≠ "java/lang/invoke/MethodHandle" ∧ yX2_accept.cls ≠ "java/lang/invoke/VarHandle" ∧ (parseMethodDescriptor yX2_accept.desc).map (fun d => d.parameters.length) = some 1 := by decide +kernel
theorem lk_2_44 : LkV 2 44 yX2_accept cX2_accept 2 1 (some .boolean) := ⟨tb_in 569 (by decide +kernel) (by decide +kernel), im_X2_accept, se_X2_accept, ini_2, cd_X2_accept, pd_X2_accept⟩
set_option maxRecDepth 20000 in
theorem cd_X2_acceptFigure : Cond.code yX2_acceptFigure cX2_acceptFigure 2 (some .boolean) ∈ tbl := tb_in 576 rfl rfl
theorem im_X2_acceptFigure : Cond.instanceMethod yX2_acceptFigure ∈ tbl := tb_in 575 (by decide +kernel) (by decide +kernel)
theorem se_X2_acceptFigure : Cond.selects yX2_acceptFigure.cls yX2_acceptFigure yX2_acceptFigure ∈ tbl := tb_in 15 (by decide +kernel) (by decide +kernel)
theorem pd_X2_acceptFigure : yX2_acceptFigure.cls ≠ "java/lang/invoke/MethodHandle" ∧ yX2_acceptFigure.cls ≠ "java/lang/invoke/VarHandle" ∧ (parseMethodDescriptor yX2_acceptFigure.desc).map (fun d => d.parameters.length) = some 1 := by decide +kernel
theorem lk_2_48 : LkV 2 48 yX2_acceptFigure cX2_acceptFigure 2 1 (some .boolean) := ⟨tb_in 573 (by decide +kernel) (by decide +kernel), im_X2_acceptFigure, se_X2_acceptFigure, ini_2, cd_X2_acceptFigure, pd_X2_acceptFigure⟩
set_option maxRecDepth 20000 in
theorem cd_X2_given : Cond.code yX2_given cX2_given 1 (some .int) ∈ tbl := tb_in 580 rfl rfl
theorem im_X2_given : Cond.instanceMethod yX2_given ∈ tbl := tb_in 579 (by decide +kernel) (by decide +kernel)
theorem se_X2_given : Cond.selects yX2_given.cls yX2_given yX2_given ∈ tbl := tb_in 16 (by decide +kernel) (by decide +kernel)
theorem pd_X2_given : yX2_given.cls ≠ "java/lang/invoke/MethodHandle" ∧ yX2_given.cls ≠ "java/lang/invoke/VarHandle" ∧ (parseMethodDescriptor yX2_given.desc).map (fun d => d.parameters.length) = some 0 := by decide +kernel
theorem lk_2_68 : LkV 2 68 yX2_given cX2_given 1 0 (some .int) := ⟨tb_in 577 (by decide +kernel) (by decide +kernel), im_X2_given, se_X2_given, ini_2, cd_X2_given, pd_X2_given⟩
set_option maxRecDepth 20000 in
theorem cd_X2_mostNumbers : Cond.code yX2_mostNumbers cX2_mostNumbers 1 (some .int) ∈ tbl := tb_in 583 rfl rfl
theorem sa_X2_mostNumbers : Cond.static yX2_mostNumbers ∈ tbl := tb_in 582 (by decide +kernel) (by decide +kernel)
theorem pd_X2_mostNumbers : yX2_mostNumbers.cls ≠ "java/lang/invoke/MethodHandle" ∧ yX2_mostNumbers.cls ≠ "java/lang/invoke/VarHandle" ∧ (parseMethodDescriptor yX2_mostNumbers.desc).map (fun d => d.parameters.length) = some 1 := by decide +kernel
theorem lk_2_71 : LkS 2 71 yX2_mostNumbers cX2_mostNumbers 1 1 (some .int) := ⟨tb_in 581 (by decide +kernel) (by decide +kernel), sa_X2_mostNumbers, ini_2, cd_X2_mostNumbers, pd_X2_mostNumbers⟩
set_option maxRecDepth 20000 in
theorem cd_X2_closeNumber : Cond.code yX2_closeNumber cX2_closeNumber 1 none ∈ tbl := tb_in 587 rfl rfl
theorem im_X2_closeNumber : Cond.instanceMethod yX2_closeNumber ∈ tbl := tb_in 586 (by decide +kernel) (by decide +kernel)
theorem se_X2_closeNumber : Cond.selects yX2_closeNumber.cls yX2_closeNumber yX2_closeNumber ∈ tbl := tb_in 17 (by decide +kernel) (by decide +kernel)
theorem pd_X2_closeNumber : yX2_closeNumber.cls ≠ "java/lang/invoke/MethodHandle" ∧ yX2_closeNumber.cls ≠ "java/lang/invoke/VarHandle" ∧ (parseMethodDescriptor yX2_closeNumber.desc).map (fun d => d.parameters.length) = some 0 := by decide +kernel
theorem lk_2_58 : LkV 2 58 yX2_closeNumber cX2_closeNumber 1 0 none := ⟨tb_in 584 (by decide +kernel) (by decide +kernel), im_X2_closeNumber, se_X2_closeNumber, ini_2, cd_X2_closeNumber, pd_X2_closeNumber⟩
set_option maxRecDepth 20000 in
theorem cd_X2_openOrder : Cond.code yX2_openOrder cX2_openOrder 2 (some .boolean) ∈ tbl := tb_in 591 rfl rfl
theorem im_X2_openOrder : Cond.instanceMethod yX2_openOrder ∈ tbl := tb_in 590 (by decide +kernel) (by decide +kernel)
theorem se_X2_openOrder : Cond.selects yX2_openOrder.cls yX2_openOrder yX2_openOrder ∈ tbl := tb_in 18 (by decide +kernel) (by decide +kernel)
theorem pd_X2_openOrder : yX2_openOrder.cls ≠ "java/lang/invoke/MethodHandle" ∧ yX2_openOrder.cls ≠ "java/lang/invoke/VarHandle" ∧ (parseMethodDescriptor yX2_openOrder.desc).map (fun d => d.parameters.length) = some 1 := by decide +kernel
theorem lk_2_61 : LkV 2 61 yX2_openOrder cX2_openOrder 2 1 (some .boolean) := ⟨tb_in 588 (by decide +kernel) (by decide +kernel), im_X2_openOrder, se_X2_openOrder, ini_2, cd_X2_openOrder, pd_X2_openOrder⟩
set_option maxRecDepth 20000 in
theorem cd_X2_closeOrder : Cond.code yX2_closeOrder cX2_closeOrder 1 (some .boolean) ∈ tbl := tb_in 595 rfl rfl
theorem im_X2_closeOrder : Cond.instanceMethod yX2_closeOrder ∈ tbl := tb_in 594 (by decide +kernel) (by decide +kernel)
theorem se_X2_closeOrder : Cond.selects yX2_closeOrder.cls yX2_closeOrder yX2_closeOrder ∈ tbl := tb_in 19 (by decide +kernel) (by decide +kernel)
theorem pd_X2_closeOrder : yX2_closeOrder.cls ≠ "java/lang/invoke/MethodHandle" ∧ yX2_closeOrder.cls ≠ "java/lang/invoke/VarHandle" ∧ (parseMethodDescriptor yX2_closeOrder.desc).map (fun d => d.parameters.length) = some 0 := by decide +kernel
theorem lk_2_64 : LkV 2 64 yX2_closeOrder cX2_closeOrder 1 0 (some .boolean) := ⟨tb_in 592 (by decide +kernel) (by decide +kernel), im_X2_closeOrder, se_X2_closeOrder, ini_2, cd_X2_closeOrder, pd_X2_closeOrder⟩
set_option maxRecDepth 20000 in
theorem cd_X2_leastNumbers : Cond.code yX2_leastNumbers cX2_leastNumbers 1 (some .int) ∈ tbl := tb_in 598 rfl rfl
theorem sa_X2_leastNumbers : Cond.static yX2_leastNumbers ∈ tbl := tb_in 597 (by decide +kernel) (by decide +kernel)
theorem pd_X2_leastNumbers : yX2_leastNumbers.cls ≠ "java/lang/invoke/MethodHandle" ∧ yX2_leastNumbers.cls ≠ "java/lang/invoke/VarHandle" ∧ (parseMethodDescriptor yX2_leastNumbers.desc).map (fun d => d.parameters.length) = some 1 := by decide +kernel
theorem lk_2_77 : LkS 2 77 yX2_leastNumbers cX2_leastNumbers 1 1 (some .int) := ⟨tb_in 596 (by decide +kernel) (by decide +kernel), sa_X2_leastNumbers, ini_2, cd_X2_leastNumbers, pd_X2_leastNumbers⟩
set_option maxRecDepth 20000 in
theorem cd_X2_perform : Cond.code yX2_perform cX2_perform 3 (some .int) ∈ tbl := tb_in 602 rfl rfl
theorem im_X2_perform : Cond.instanceMethod yX2_perform ∈ tbl := tb_in 600 (by decide +kernel) (by decide +kernel)
theorem se_X2_perform : Cond.selects yX2_perform.cls yX2_perform yX2_perform ∈ tbl := tb_in 601 (by decide +kernel) (by decide +kernel)
theorem pd_X2_perform : yX2_perform.cls ≠ "java/lang/invoke/MethodHandle" ∧ yX2_perform.cls ≠ "java/lang/invoke/VarHandle" ∧ (parseMethodDescriptor yX2_perform.desc).map (fun d => d.parameters.length) = some 1 := by decide +kernel
theorem lk_6_196 : LkV 6 196 yX2_perform cX2_perform 3 1 (some .int) := ⟨tb_in 599 (by decide +kernel) (by decide +kernel), im_X2_perform, se_X2_perform, ini_2, cd_X2_perform, pd_X2_perform⟩
set_option maxRecDepth 20000 in
theorem cd_X2_performOne : Cond.code yX2_performOne cX2_performOne 4 (some .int) ∈ tbl := tb_in 606 rfl rfl
theorem im_X2_performOne : Cond.instanceMethod yX2_performOne ∈ tbl := tb_in 605 (by decide +kernel) (by decide +kernel)
theorem se_X2_performOne : Cond.selects yX2_performOne.cls yX2_performOne yX2_performOne ∈ tbl := tb_in 20 (by decide +kernel) (by decide +kernel)
theorem pd_X2_performOne : yX2_performOne.cls ≠ "java/lang/invoke/MethodHandle" ∧ yX2_performOne.cls ≠ "java/lang/invoke/VarHandle" ∧ (parseMethodDescriptor yX2_performOne.desc).map (fun d => d.parameters.length) = some 2 := by decide +kernel
theorem lk_2_80 : LkV 2 80 yX2_performOne cX2_performOne 4 2 (some .int) := ⟨tb_in 603 (by decide +kernel) (by decide +kernel), im_X2_performOne, se_X2_performOne, ini_2, cd_X2_performOne, pd_X2_performOne⟩
theorem lk_2_84 : LkN 2 84 yX6_isOutside cX6_isOutside 3 3 (some .boolean) := ⟨by decide +kernel, sa_X6_isOutside, ini_6, cd_X6_isOutside, pd_X6_isOutside⟩
set_option maxRecDepth 20000 in
theorem cd_X3_replace : Cond.code yX3_replace cX3_replace 5 (some .int) ∈ tbl := tb_in 612 rfl rfl
theorem im_X3_replace : Cond.instanceMethod yX3_replace ∈ tbl := tb_in 610 (by decide +kernel) (by decide +kernel)
theorem se_X3_replace : Cond.selects yX3_replace.cls yX3_replace yX3_replace ∈ tbl := tb_in 611 (by decide +kernel) (by decide +kernel)
theorem pd_X3_replace : yX3_replace.cls ≠ "java/lang/invoke/MethodHandle" ∧ yX3_replace.cls ≠ "java/lang/invoke/VarHandle" ∧ (parseMethodDescriptor yX3_replace.desc).map (fun d => d.parameters.length) = some 3 := by decide +kernel
theorem lk_2_89 : LkV 2 89 yX3_replace cX3_replace 5 3 (some .int) := ⟨tb_in 609 (by decide +kernel) (by decide +kernel), im_X3_replace, se_X3_replace, ini_3, cd_X3_replace, pd_X3_replace⟩
set_option maxRecDepth 20000 in
theorem cd_X2_number : Cond.code yX2_number cX2_number 2 (some .int) ∈ tbl := tb_in 616 rfl rfl
theorem im_X2_number : Cond.instanceMethod yX2_number ∈ tbl := tb_in 614 (by decide +kernel) (by decide +kernel)
theorem se_X2_number : Cond.selects yX2_number.cls yX2_number yX2_number ∈ tbl := tb_in 615 (by decide +kernel) (by decide +kernel)
theorem pd_X2_number : yX2_number.cls ≠ "java/lang/invoke/MethodHandle" ∧ yX2_number.cls ≠ "java/lang/invoke/VarHandle" ∧ (parseMethodDescriptor yX2_number.desc).map (fun d => d.parameters.length) = some 1 := by decide +kernel
theorem lk_3_73 : LkV 3 73 yX2_number cX2_number 2 1 (some .int) := ⟨tb_in 613 (by decide +kernel) (by decide +kernel), im_X2_number, se_X2_number, ini_2, cd_X2_number, pd_X2_number⟩
theorem lk_2_95 : LkV 2 95 yX2_number cX2_number 2 1 (some .int) := ⟨tb_in 617 (by decide +kernel) (by decide +kernel), im_X2_number, se_X2_number, ini_2, cd_X2_number, pd_X2_number⟩
theorem lk_2_98 : LkV 2 98 yX3_addPlace cX3_addPlace 6 2 (some .int) := ⟨tb_in 618 (by decide +kernel) (by decide +kernel), im_X3_addPlace, se_X3_addPlace, ini_3, cd_X3_addPlace, pd_X3_addPlace⟩
theorem lk_2_102 : LkV 2 102 yX3_shift cX3_shift 3 1 (some .int) := ⟨tb_in 619 (by decide +kernel) (by decide +kernel), im_X3_shift, se_X3_shift, ini_3, cd_X3_shift, pd_X3_shift⟩
theorem lk_2_105 : LkV 2 105 yX3_scale cX3_scale 5 1 (some .int) := ⟨tb_in 620 (by decide +kernel) (by decide +kernel), im_X3_scale, se_X3_scale, ini_3, cd_X3_scale, pd_X3_scale⟩
theorem lk_2_108 : LkV 2 108 yX3_reweigh cX3_reweigh 3 1 (some .int) := ⟨tb_in 621 (by decide +kernel) (by decide +kernel), im_X3_reweigh, se_X3_reweigh, ini_3, cd_X3_reweigh, pd_X3_reweigh⟩
theorem lk_2_111 : LkV 2 111 yX3_append cX3_append 2 1 (some .int) := ⟨tb_in 622 (by decide +kernel) (by decide +kernel), im_X3_append, se_X3_append, ini_3, cd_X3_append, pd_X3_append⟩
theorem lk_2_114 : LkV 2 114 yX3_drop cX3_drop 1 0 (some .int) := ⟨tb_in 623 (by decide +kernel) (by decide +kernel), im_X3_drop, se_X3_drop, ini_3, cd_X3_drop, pd_X3_drop⟩
set_option maxRecDepth 20000 in
theorem cd_X2_orders : Cond.code yX2_orders cX2_orders 1 (some .int) ∈ tbl := tb_in 627 rfl rfl
theorem im_X2_orders : Cond.instanceMethod yX2_orders ∈ tbl := tb_in 625 (by decide +kernel) (by decide +kernel)
theorem se_X2_orders : Cond.selects yX2_orders.cls yX2_orders yX2_orders ∈ tbl := tb_in 626 (by decide +kernel) (by decide +kernel)
theorem pd_X2_orders : yX2_orders.cls ≠ "java/lang/invoke/MethodHandle" ∧ yX2_orders.cls ≠ "java/lang/invoke/VarHandle" ∧ (parseMethodDescriptor yX2_orders.desc).map (fun d => d.parameters.length) = some 0 := by decide +kernel
theorem lk_6_200 : LkV 6 200 yX2_orders cX2_orders 1 0 (some .int) := ⟨tb_in 624 (by decide +kernel) (by decide +kernel), im_X2_orders, se_X2_orders, ini_2, cd_X2_orders, pd_X2_orders⟩
set_option maxRecDepth 20000 in
theorem cd_X6_back : Cond.code yX6_back cX6_back 1 (some .int) ∈ tbl := tb_in 631 rfl rfl
theorem im_X6_back : Cond.instanceMethod yX6_back ∈ tbl := tb_in 629 (by decide +kernel) (by decide +kernel)
theorem se_X6_back : Cond.selects yX6_back.cls yX6_back yX6_back ∈ tbl := tb_in 630 (by decide +kernel) (by decide +kernel)
theorem pd_X6_back : yX6_back.cls ≠ "java/lang/invoke/MethodHandle" ∧ yX6_back.cls ≠ "java/lang/invoke/VarHandle" ∧ (parseMethodDescriptor yX6_back.desc).map (fun d => d.parameters.length) = some 0 := by decide +kernel
theorem lk_10_112 : LkV 10 112 yX6_back cX6_back 1 0 (some .int) := ⟨tb_in 628 (by decide +kernel) (by decide +kernel), im_X6_back, se_X6_back, ini_6, cd_X6_back, pd_X6_back⟩
set_option maxRecDepth 20000 in
theorem cd_X4_depth : Cond.code yX4_depth cX4_depth 1 (some .int) ∈ tbl := tb_in 635 rfl rfl
theorem im_X4_depth : Cond.instanceMethod yX4_depth ∈ tbl := tb_in 633 (by decide +kernel) (by decide +kernel)
theorem se_X4_depth : Cond.selects yX4_depth.cls yX4_depth yX4_depth ∈ tbl := tb_in 634 (by decide +kernel) (by decide +kernel)
theorem pd_X4_depth : yX4_depth.cls ≠ "java/lang/invoke/MethodHandle" ∧ yX4_depth.cls ≠ "java/lang/invoke/VarHandle" ∧ (parseMethodDescriptor yX4_depth.desc).map (fun d => d.parameters.length) = some 0 := by decide +kernel
theorem lk_6_203 : LkV 6 203 yX4_depth cX4_depth 1 0 (some .int) := ⟨tb_in 632 (by decide +kernel) (by decide +kernel), im_X4_depth, se_X4_depth, ini_4, cd_X4_depth, pd_X4_depth⟩
set_option maxRecDepth 20000 in
theorem cd_X4_pop : Cond.code yX4_pop cX4_pop 2 none ∈ tbl := tb_in 639 rfl rfl
theorem im_X4_pop : Cond.instanceMethod yX4_pop ∈ tbl := tb_in 637 (by decide +kernel) (by decide +kernel)
theorem se_X4_pop : Cond.selects yX4_pop.cls yX4_pop yX4_pop ∈ tbl := tb_in 638 (by decide +kernel) (by decide +kernel)
theorem pd_X4_pop : yX4_pop.cls ≠ "java/lang/invoke/MethodHandle" ∧ yX4_pop.cls ≠ "java/lang/invoke/VarHandle" ∧ (parseMethodDescriptor yX4_pop.desc).map (fun d => d.parameters.length) = some 1 := by decide +kernel
theorem lk_6_206 : LkV 6 206 yX4_pop cX4_pop 2 1 none := ⟨tb_in 636 (by decide +kernel) (by decide +kernel), im_X4_pop, se_X4_pop, ini_4, cd_X4_pop, pd_X4_pop⟩
set_option maxRecDepth 20000 in
theorem cd_X3_load : Cond.code yX3_load cX3_load 4 none ∈ tbl := tb_in 643 rfl rfl
theorem im_X3_load : Cond.instanceMethod yX3_load ∈ tbl := tb_in 641 (by decide +kernel) (by decide +kernel)
theorem se_X3_load : Cond.selects yX3_load.cls yX3_load yX3_load ∈ tbl := tb_in 642 (by decide +kernel) (by decide +kernel)
theorem pd_X3_load : yX3_load.cls ≠ "java/lang/invoke/MethodHandle" ∧ yX3_load.cls ≠ "java/lang/invoke/VarHandle" ∧ (parseMethodDescriptor yX3_load.desc).map (fun d => d.parameters.length) = some 2 := by decide +kernel
theorem lk_4_32 : LkV 4 32 yX3_load cX3_load 4 2 none := ⟨tb_in 640 (by decide +kernel) (by decide +kernel), im_X3_load, se_X3_load, ini_3, cd_X3_load, pd_X3_load⟩
set_option maxRecDepth 20000 in
theorem cd_X6_told : Cond.code yX6_told cX6_told 2 (some .int) ∈ tbl := tb_in 647 rfl rfl
theorem im_X6_told : Cond.instanceMethod yX6_told ∈ tbl := tb_in 645 (by decide +kernel) (by decide +kernel)
theorem se_X6_told : Cond.selects yX6_told.cls yX6_told yX6_told ∈ tbl := tb_in 646 (by decide +kernel) (by decide +kernel)
theorem pd_X6_told : yX6_told.cls ≠ "java/lang/invoke/MethodHandle" ∧ yX6_told.cls ≠ "java/lang/invoke/VarHandle" ∧ (parseMethodDescriptor yX6_told.desc).map (fun d => d.parameters.length) = some 1 := by decide +kernel
theorem lk_10_116 : LkV 10 116 yX6_told cX6_told 2 1 (some .int) := ⟨tb_in 644 (by decide +kernel) (by decide +kernel), im_X6_told, se_X6_told, ini_6, cd_X6_told, pd_X6_told⟩
set_option maxRecDepth 20000 in
theorem cd_X6_tally : Cond.code yX6_tally cX6_tally 2 (some .int) ∈ tbl := tb_in 651 rfl rfl
theorem im_X6_tally : Cond.instanceMethod yX6_tally ∈ tbl := tb_in 650 (by decide +kernel) (by decide +kernel)
theorem se_X6_tally : Cond.selects yX6_tally.cls yX6_tally yX6_tally ∈ tbl := tb_in 21 (by decide +kernel) (by decide +kernel)
theorem pd_X6_tally : yX6_tally.cls ≠ "java/lang/invoke/MethodHandle" ∧ yX6_tally.cls ≠ "java/lang/invoke/VarHandle" ∧ (parseMethodDescriptor yX6_tally.desc).map (fun d => d.parameters.length) = some 1 := by decide +kernel
theorem lk_6_209 : LkV 6 209 yX6_tally cX6_tally 2 1 (some .int) := ⟨tb_in 648 (by decide +kernel) (by decide +kernel), im_X6_tally, se_X6_tally, ini_6, cd_X6_tally, pd_X6_tally⟩
set_option maxRecDepth 20000 in
theorem cd_X6_digest : Cond.code yX6_digest cX6_digest 4 (some .long) ∈ tbl := tb_in 655 rfl rfl
theorem im_X6_digest : Cond.instanceMethod yX6_digest ∈ tbl := tb_in 653 (by decide +kernel) (by decide +kernel)
theorem se_X6_digest : Cond.selects yX6_digest.cls yX6_digest yX6_digest ∈ tbl := tb_in 654 (by decide +kernel) (by decide +kernel)
theorem pd_X6_digest : yX6_digest.cls ≠ "java/lang/invoke/MethodHandle" ∧ yX6_digest.cls ≠ "java/lang/invoke/VarHandle" ∧ (parseMethodDescriptor yX6_digest.desc).map (fun d => d.parameters.length) = some 0 := by decide +kernel
theorem lk_10_120 : LkV 10 120 yX6_digest cX6_digest 4 0 (some .long) := ⟨tb_in 652 (by decide +kernel) (by decide +kernel), im_X6_digest, se_X6_digest, ini_6, cd_X6_digest, pd_X6_digest⟩
set_option maxRecDepth 20000 in
theorem cd_X6_digestPolynomial : Cond.code yX6_digestPolynomial cX6_digestPolynomial 7 (some .long) ∈ tbl := tb_in 661 rfl rfl
theorem im_X6_digestPolynomial : Cond.instanceMethod yX6_digestPolynomial ∈ tbl := tb_in 660 (by decide +kernel) (by decide +kernel)
theorem se_X6_digestPolynomial : Cond.selects yX6_digestPolynomial.cls yX6_digestPolynomial yX6_digestPolynomial ∈ tbl := tb_in 22 (by decide +kernel) (by decide +kernel)
theorem pd_X6_digestPolynomial : yX6_digestPolynomial.cls ≠ "java/lang/invoke/MethodHandle" ∧ yX6_digestPolynomial.cls ≠ "java/lang/invoke/VarHandle" ∧ (parseMethodDescriptor yX6_digestPolynomial.desc).map (fun d => d.parameters.length) = some 2 := by decide +kernel
theorem lk_6_219 : LkV 6 219 yX6_digestPolynomial cX6_digestPolynomial 7 2 (some .long) := ⟨tb_in 658 (by decide +kernel) (by decide +kernel), im_X6_digestPolynomial, se_X6_digestPolynomial, ini_6, cd_X6_digestPolynomial, pd_X6_digestPolynomial⟩
set_option maxRecDepth 20000 in
theorem cd_X7_moment : Cond.code yX7_moment cX7_moment 4 (some .int) ∈ tbl := tb_in 747 rfl rfl
theorem im_X7_moment : Cond.instanceMethod yX7_moment ∈ tbl := tb_in 745 (by decide +kernel) (by decide +kernel)
theorem se_X7_moment : Cond.selects yX7_moment.cls yX7_moment yX7_moment ∈ tbl := tb_in 746 (by decide +kernel) (by decide +kernel)
theorem pd_X7_moment : yX7_moment.cls ≠ "java/lang/invoke/MethodHandle" ∧ yX7_moment.cls ≠ "java/lang/invoke/VarHandle" ∧ (parseMethodDescriptor yX7_moment.desc).map (fun d => d.parameters.length) = some 2 := by decide +kernel
theorem lk_10_17 : LkV 10 17 yX7_moment cX7_moment 4 2 (some .int) := ⟨tb_in 744 (by decide +kernel) (by decide +kernel), im_X7_moment, se_X7_moment, ini_7, cd_X7_moment, pd_X7_moment⟩
set_option maxRecDepth 20000 in
theorem cd_X7_in : Cond.code yX7_in cX7_in 6 (some .boolean) ∈ tbl := tb_in 750 rfl rfl
theorem sa_X7_in : Cond.static yX7_in ∈ tbl := tb_in 749 (by decide +kernel) (by decide +kernel)
theorem pd_X7_in : yX7_in.cls ≠ "java/lang/invoke/MethodHandle" ∧ yX7_in.cls ≠ "java/lang/invoke/VarHandle" ∧ (parseMethodDescriptor yX7_in.desc).map (fun d => d.parameters.length) = some 3 := by decide +kernel
theorem lk_7_64 : LkS 7 64 yX7_in cX7_in 6 3 (some .boolean) := ⟨tb_in 748 (by decide +kernel) (by decide +kernel), sa_X7_in, ini_7, cd_X7_in, pd_X7_in⟩
set_option maxRecDepth 20000 in
theorem cd_X7_bad : Cond.code yX7_bad cX7_bad 1 (some .int) ∈ tbl := tb_in 756 rfl rfl
theorem im_X7_bad : Cond.instanceMethod yX7_bad ∈ tbl := tb_in 755 (by decide +kernel) (by decide +kernel)
theorem se_X7_bad : Cond.selects yX7_bad.cls yX7_bad yX7_bad ∈ tbl := tb_in 23 (by decide +kernel) (by decide +kernel)
theorem pd_X7_bad : yX7_bad.cls ≠ "java/lang/invoke/MethodHandle" ∧ yX7_bad.cls ≠ "java/lang/invoke/VarHandle" ∧ (parseMethodDescriptor yX7_bad.desc).map (fun d => d.parameters.length) = some 0 := by decide +kernel
theorem lk_7_72 : LkV 7 72 yX7_bad cX7_bad 1 0 (some .int) := ⟨tb_in 753 (by decide +kernel) (by decide +kernel), im_X7_bad, se_X7_bad, ini_7, cd_X7_bad, pd_X7_bad⟩
set_option maxRecDepth 20000 in
theorem cd_X7_note : Cond.code yX7_note cX7_note 3 none ∈ tbl := tb_in 761 rfl rfl
theorem im_X7_note : Cond.instanceMethod yX7_note ∈ tbl := tb_in 760 (by decide +kernel) (by decide +kernel)
theorem se_X7_note : Cond.selects yX7_note.cls yX7_note yX7_note ∈ tbl := tb_in 24 (by decide +kernel) (by decide +kernel)
theorem pd_X7_note : yX7_note.cls ≠ "java/lang/invoke/MethodHandle" ∧ yX7_note.cls ≠ "java/lang/invoke/VarHandle" ∧ (parseMethodDescriptor yX7_note.desc).map (fun d => d.parameters.length) = some 1 := by decide +kernel
theorem lk_7_76 : LkV 7 76 yX7_note cX7_note 3 1 none := ⟨tb_in 758 (by decide +kernel) (by decide +kernel), im_X7_note, se_X7_note, ini_7, cd_X7_note, pd_X7_note⟩
set_option maxRecDepth 20000 in
theorem cd_X7_bring : Cond.code yX7_bring cX7_bring 6 none ∈ tbl := tb_in 765 rfl rfl
theorem im_X7_bring : Cond.instanceMethod yX7_bring ∈ tbl := tb_in 764 (by decide +kernel) (by decide +kernel)
theorem se_X7_bring : Cond.selects yX7_bring.cls yX7_bring yX7_bring ∈ tbl := tb_in 25 (by decide +kernel) (by decide +kernel)
theorem pd_X7_bring : yX7_bring.cls ≠ "java/lang/invoke/MethodHandle" ∧ yX7_bring.cls ≠ "java/lang/invoke/VarHandle" ∧ (parseMethodDescriptor yX7_bring.desc).map (fun d => d.parameters.length) = some 4 := by decide +kernel
theorem lk_7_60 : LkV 7 60 yX7_bring cX7_bring 6 4 none := ⟨tb_in 762 (by decide +kernel) (by decide +kernel), im_X7_bring, se_X7_bring, ini_7, cd_X7_bring, pd_X7_bring⟩
set_option maxRecDepth 20000 in
theorem cd_X7_more : Cond.code yX7_more cX7_more 2 (some .int) ∈ tbl := tb_in 769 rfl rfl
theorem im_X7_more : Cond.instanceMethod yX7_more ∈ tbl := tb_in 767 (by decide +kernel) (by decide +kernel)
theorem se_X7_more : Cond.selects yX7_more.cls yX7_more yX7_more ∈ tbl := tb_in 768 (by decide +kernel) (by decide +kernel)
theorem pd_X7_more : yX7_more.cls ≠ "java/lang/invoke/MethodHandle" ∧ yX7_more.cls ≠ "java/lang/invoke/VarHandle" ∧ (parseMethodDescriptor yX7_more.desc).map (fun d => d.parameters.length) = some 1 := by decide +kernel
theorem lk_10_22 : LkV 10 22 yX7_more cX7_more 2 1 (some .int) := ⟨tb_in 766 (by decide +kernel) (by decide +kernel), im_X7_more, se_X7_more, ini_7, cd_X7_more, pd_X7_more⟩
set_option maxRecDepth 20000 in
theorem cd_X7_full : Cond.code yX7_full cX7_full 1 (some .int) ∈ tbl := tb_in 773 rfl rfl
theorem im_X7_full : Cond.instanceMethod yX7_full ∈ tbl := tb_in 772 (by decide +kernel) (by decide +kernel)
theorem se_X7_full : Cond.selects yX7_full.cls yX7_full yX7_full ∈ tbl := tb_in 26 (by decide +kernel) (by decide +kernel)
theorem pd_X7_full : yX7_full.cls ≠ "java/lang/invoke/MethodHandle" ∧ yX7_full.cls ≠ "java/lang/invoke/VarHandle" ∧ (parseMethodDescriptor yX7_full.desc).map (fun d => d.parameters.length) = some 0 := by decide +kernel
theorem lk_7_80 : LkV 7 80 yX7_full cX7_full 1 0 (some .int) := ⟨tb_in 770 (by decide +kernel) (by decide +kernel), im_X7_full, se_X7_full, ini_7, cd_X7_full, pd_X7_full⟩
set_option maxRecDepth 20000 in
theorem cd_X7_put : Cond.code yX7_put cX7_put 2 none ∈ tbl := tb_in 778 rfl rfl
theorem im_X7_put : Cond.instanceMethod yX7_put ∈ tbl := tb_in 777 (by decide +kernel) (by decide +kernel)
theorem se_X7_put : Cond.selects yX7_put.cls yX7_put yX7_put ∈ tbl := tb_in 27 (by decide +kernel) (by decide +kernel)
theorem pd_X7_put : yX7_put.cls ≠ "java/lang/invoke/MethodHandle" ∧ yX7_put.cls ≠ "java/lang/invoke/VarHandle" ∧ (parseMethodDescriptor yX7_put.desc).map (fun d => d.parameters.length) = some 1 := by decide +kernel
theorem lk_7_83 : LkV 7 83 yX7_put cX7_put 2 1 none := ⟨tb_in 775 (by decide +kernel) (by decide +kernel), im_X7_put, se_X7_put, ini_7, cd_X7_put, pd_X7_put⟩
set_option maxRecDepth 20000 in
theorem cd_X7_less : Cond.code yX7_less cX7_less 1 (some .int) ∈ tbl := tb_in 782 rfl rfl
theorem im_X7_less : Cond.instanceMethod yX7_less ∈ tbl := tb_in 780 (by decide +kernel) (by decide +kernel)
theorem se_X7_less : Cond.selects yX7_less.cls yX7_less yX7_less ∈ tbl := tb_in 781 (by decide +kernel) (by decide +kernel)
theorem pd_X7_less : yX7_less.cls ≠ "java/lang/invoke/MethodHandle" ∧ yX7_less.cls ≠ "java/lang/invoke/VarHandle" ∧ (parseMethodDescriptor yX7_less.desc).map (fun d => d.parameters.length) = some 0 := by decide +kernel
theorem lk_10_27 : LkV 10 27 yX7_less cX7_less 1 0 (some .int) := ⟨tb_in 779 (by decide +kernel) (by decide +kernel), im_X7_less, se_X7_less, ini_7, cd_X7_less, pd_X7_less⟩
set_option maxRecDepth 20000 in
theorem cd_X7_no : Cond.code yX7_no cX7_no 1 (some .int) ∈ tbl := tb_in 786 rfl rfl
theorem im_X7_no : Cond.instanceMethod yX7_no ∈ tbl := tb_in 785 (by decide +kernel) (by decide +kernel)
theorem se_X7_no : Cond.selects yX7_no.cls yX7_no yX7_no ∈ tbl := tb_in 28 (by decide +kernel) (by decide +kernel)
theorem pd_X7_no : yX7_no.cls ≠ "java/lang/invoke/MethodHandle" ∧ yX7_no.cls ≠ "java/lang/invoke/VarHandle" ∧ (parseMethodDescriptor yX7_no.desc).map (fun d => d.parameters.length) = some 0 := by decide +kernel
theorem lk_7_87 : LkV 7 87 yX7_no cX7_no 1 0 (some .int) := ⟨tb_in 783 (by decide +kernel) (by decide +kernel), im_X7_no, se_X7_no, ini_7, cd_X7_no, pd_X7_no⟩
set_option maxRecDepth 20000 in
theorem cd_X7_cut : Cond.code yX7_cut cX7_cut 1 none ∈ tbl := tb_in 791 rfl rfl
theorem im_X7_cut : Cond.instanceMethod yX7_cut ∈ tbl := tb_in 790 (by decide +kernel) (by decide +kernel)
theorem se_X7_cut : Cond.selects yX7_cut.cls yX7_cut yX7_cut ∈ tbl := tb_in 29 (by decide +kernel) (by decide +kernel)
theorem pd_X7_cut : yX7_cut.cls ≠ "java/lang/invoke/MethodHandle" ∧ yX7_cut.cls ≠ "java/lang/invoke/VarHandle" ∧ (parseMethodDescriptor yX7_cut.desc).map (fun d => d.parameters.length) = some 0 := by decide +kernel
theorem lk_7_90 : LkV 7 90 yX7_cut cX7_cut 1 0 none := ⟨tb_in 788 (by decide +kernel) (by decide +kernel), im_X7_cut, se_X7_cut, ini_7, cd_X7_cut, pd_X7_cut⟩
set_option maxRecDepth 20000 in
theorem cd_X7_adds : Cond.code yX7_adds cX7_adds 3 (some .int) ∈ tbl := tb_in 795 rfl rfl
theorem im_X7_adds : Cond.instanceMethod yX7_adds ∈ tbl := tb_in 793 (by decide +kernel) (by decide +kernel)
theorem se_X7_adds : Cond.selects yX7_adds.cls yX7_adds yX7_adds ∈ tbl := tb_in 794 (by decide +kernel) (by decide +kernel)
theorem pd_X7_adds : yX7_adds.cls ≠ "java/lang/invoke/MethodHandle" ∧ yX7_adds.cls ≠ "java/lang/invoke/VarHandle" ∧ (parseMethodDescriptor yX7_adds.desc).map (fun d => d.parameters.length) = some 2 := by decide +kernel
theorem lk_10_31 : LkV 10 31 yX7_adds cX7_adds 3 2 (some .int) := ⟨tb_in 792 (by decide +kernel) (by decide +kernel), im_X7_adds, se_X7_adds, ini_7, cd_X7_adds, pd_X7_adds⟩
set_option maxRecDepth 20000 in
theorem cd_X7_isPlace : Cond.code yX7_isPlace cX7_isPlace 1 (some .boolean) ∈ tbl := tb_in 798 rfl rfl
theorem sa_X7_isPlace : Cond.static yX7_isPlace ∈ tbl := tb_in 797 (by decide +kernel) (by decide +kernel)
theorem pd_X7_isPlace : yX7_isPlace.cls ≠ "java/lang/invoke/MethodHandle" ∧ yX7_isPlace.cls ≠ "java/lang/invoke/VarHandle" ∧ (parseMethodDescriptor yX7_isPlace.desc).map (fun d => d.parameters.length) = some 1 := by decide +kernel
theorem lk_7_113 : LkS 7 113 yX7_isPlace cX7_isPlace 1 1 (some .boolean) := ⟨tb_in 796 (by decide +kernel) (by decide +kernel), sa_X7_isPlace, ini_7, cd_X7_isPlace, pd_X7_isPlace⟩
set_option maxRecDepth 20000 in
theorem cd_X7_isWeight : Cond.code yX7_isWeight cX7_isWeight 1 (some .boolean) ∈ tbl := tb_in 803 rfl rfl
theorem sa_X7_isWeight : Cond.static yX7_isWeight ∈ tbl := tb_in 802 (by decide +kernel) (by decide +kernel)
theorem pd_X7_isWeight : yX7_isWeight.cls ≠ "java/lang/invoke/MethodHandle" ∧ yX7_isWeight.cls ≠ "java/lang/invoke/VarHandle" ∧ (parseMethodDescriptor yX7_isWeight.desc).map (fun d => d.parameters.length) = some 1 := by decide +kernel
theorem lk_7_116 : LkS 7 116 yX7_isWeight cX7_isWeight 1 1 (some .boolean) := ⟨tb_in 801 (by decide +kernel) (by decide +kernel), sa_X7_isWeight, ini_7, cd_X7_isWeight, pd_X7_isWeight⟩
set_option maxRecDepth 20000 in
theorem cd_X7_addPlace : Cond.code yX7_addPlace cX7_addPlace 4 (some .boolean) ∈ tbl := tb_in 809 rfl rfl
theorem im_X7_addPlace : Cond.instanceMethod yX7_addPlace ∈ tbl := tb_in 808 (by decide +kernel) (by decide +kernel)
theorem se_X7_addPlace : Cond.selects yX7_addPlace.cls yX7_addPlace yX7_addPlace ∈ tbl := tb_in 30 (by decide +kernel) (by decide +kernel)
theorem pd_X7_addPlace : yX7_addPlace.cls ≠ "java/lang/invoke/MethodHandle" ∧ yX7_addPlace.cls ≠ "java/lang/invoke/VarHandle" ∧ (parseMethodDescriptor yX7_addPlace.desc).map (fun d => d.parameters.length) = some 2 := by decide +kernel
theorem lk_7_119 : LkV 7 119 yX7_addPlace cX7_addPlace 4 2 (some .boolean) := ⟨tb_in 806 (by decide +kernel) (by decide +kernel), im_X7_addPlace, se_X7_addPlace, ini_7, cd_X7_addPlace, pd_X7_addPlace⟩
set_option maxRecDepth 20000 in
theorem cd_X7_power : Cond.code yX7_power cX7_power 6 (some .long) ∈ tbl := tb_in 812 rfl rfl
theorem sa_X7_power : Cond.static yX7_power ∈ tbl := tb_in 811 (by decide +kernel) (by decide +kernel)
theorem pd_X7_power : yX7_power.cls ≠ "java/lang/invoke/MethodHandle" ∧ yX7_power.cls ≠ "java/lang/invoke/VarHandle" ∧ (parseMethodDescriptor yX7_power.desc).map (fun d => d.parameters.length) = some 2 := by decide +kernel
theorem lk_7_93 : LkS 7 93 yX7_power cX7_power 6 2 (some .long) := ⟨tb_in 810 (by decide +kernel) (by decide +kernel), sa_X7_power, ini_7, cd_X7_power, pd_X7_power⟩
set_option maxRecDepth 20000 in
theorem cd_X7_takeMade : Cond.code yX7_takeMade cX7_takeMade 4 (some .boolean) ∈ tbl := tb_in 816 rfl rfl
theorem im_X7_takeMade : Cond.instanceMethod yX7_takeMade ∈ tbl := tb_in 815 (by decide +kernel) (by decide +kernel)
theorem se_X7_takeMade : Cond.selects yX7_takeMade.cls yX7_takeMade yX7_takeMade ∈ tbl := tb_in 31 (by decide +kernel) (by decide +kernel)
theorem pd_X7_takeMade : yX7_takeMade.cls ≠ "java/lang/invoke/MethodHandle" ∧ yX7_takeMade.cls ≠ "java/lang/invoke/VarHandle" ∧ (parseMethodDescriptor yX7_takeMade.desc).map (fun d => d.parameters.length) = some 1 := by decide +kernel
theorem lk_7_97 : LkV 7 97 yX7_takeMade cX7_takeMade 4 1 (some .boolean) := ⟨tb_in 813 (by decide +kernel) (by decide +kernel), im_X7_takeMade, se_X7_takeMade, ini_7, cd_X7_takeMade, pd_X7_takeMade⟩
set_option maxRecDepth 20000 in
theorem cd_X7_moves : Cond.code yX7_moves cX7_moves 2 (some .int) ∈ tbl := tb_in 820 rfl rfl
theorem im_X7_moves : Cond.instanceMethod yX7_moves ∈ tbl := tb_in 818 (by decide +kernel) (by decide +kernel)
theorem se_X7_moves : Cond.selects yX7_moves.cls yX7_moves yX7_moves ∈ tbl := tb_in 819 (by decide +kernel) (by decide +kernel)
theorem pd_X7_moves : yX7_moves.cls ≠ "java/lang/invoke/MethodHandle" ∧ yX7_moves.cls ≠ "java/lang/invoke/VarHandle" ∧ (parseMethodDescriptor yX7_moves.desc).map (fun d => d.parameters.length) = some 1 := by decide +kernel
theorem lk_10_35 : LkV 10 35 yX7_moves cX7_moves 2 1 (some .int) := ⟨tb_in 817 (by decide +kernel) (by decide +kernel), im_X7_moves, se_X7_moves, ini_7, cd_X7_moves, pd_X7_moves⟩
set_option maxRecDepth 20000 in
theorem cd_X7_move : Cond.code yX7_move cX7_move 6 (some .boolean) ∈ tbl := tb_in 824 rfl rfl
theorem im_X7_move : Cond.instanceMethod yX7_move ∈ tbl := tb_in 823 (by decide +kernel) (by decide +kernel)
theorem se_X7_move : Cond.selects yX7_move.cls yX7_move yX7_move ∈ tbl := tb_in 32 (by decide +kernel) (by decide +kernel)
theorem pd_X7_move : yX7_move.cls ≠ "java/lang/invoke/MethodHandle" ∧ yX7_move.cls ≠ "java/lang/invoke/VarHandle" ∧ (parseMethodDescriptor yX7_move.desc).map (fun d => d.parameters.length) = some 1 := by decide +kernel
theorem lk_7_123 : LkV 7 123 yX7_move cX7_move 6 1 (some .boolean) := ⟨tb_in 821 (by decide +kernel) (by decide +kernel), im_X7_move, se_X7_move, ini_7, cd_X7_move, pd_X7_move⟩
set_option maxRecDepth 20000 in
theorem cd_X7_choose : Cond.code yX7_choose cX7_choose 5 (some .long) ∈ tbl := tb_in 827 rfl rfl
theorem sa_X7_choose : Cond.static yX7_choose ∈ tbl := tb_in 826 (by decide +kernel) (by decide +kernel)
theorem pd_X7_choose : yX7_choose.cls ≠ "java/lang/invoke/MethodHandle" ∧ yX7_choose.cls ≠ "java/lang/invoke/VarHandle" ∧ (parseMethodDescriptor yX7_choose.desc).map (fun d => d.parameters.length) = some 2 := by decide +kernel
theorem lk_7_101 : LkS 7 101 yX7_choose cX7_choose 5 2 (some .long) := ⟨tb_in 825 (by decide +kernel) (by decide +kernel), sa_X7_choose, ini_7, cd_X7_choose, pd_X7_choose⟩
set_option maxRecDepth 20000 in
theorem cd_X7_last : Cond.code yX7_last cX7_last 1 (some .int) ∈ tbl := tb_in 831 rfl rfl
theorem im_X7_last : Cond.instanceMethod yX7_last ∈ tbl := tb_in 830 (by decide +kernel) (by decide +kernel)
theorem se_X7_last : Cond.selects yX7_last.cls yX7_last yX7_last ∈ tbl := tb_in 33 (by decide +kernel) (by decide +kernel)
theorem pd_X7_last : yX7_last.cls ≠ "java/lang/invoke/MethodHandle" ∧ yX7_last.cls ≠ "java/lang/invoke/VarHandle" ∧ (parseMethodDescriptor yX7_last.desc).map (fun d => d.parameters.length) = some 0 := by decide +kernel
theorem lk_7_126 : LkV 7 126 yX7_last cX7_last 1 0 (some .int) := ⟨tb_in 828 (by decide +kernel) (by decide +kernel), im_X7_last, se_X7_last, ini_7, cd_X7_last, pd_X7_last⟩
set_option maxRecDepth 20000 in
theorem cd_X7_stretches : Cond.code yX7_stretches cX7_stretches 2 (some .int) ∈ tbl := tb_in 835 rfl rfl
theorem im_X7_stretches : Cond.instanceMethod yX7_stretches ∈ tbl := tb_in 833 (by decide +kernel) (by decide +kernel)
theorem se_X7_stretches : Cond.selects yX7_stretches.cls yX7_stretches yX7_stretches ∈ tbl := tb_in 834 (by decide +kernel) (by decide +kernel)
theorem pd_X7_stretches : yX7_stretches.cls ≠ "java/lang/invoke/MethodHandle" ∧ yX7_stretches.cls ≠ "java/lang/invoke/VarHandle" ∧ (parseMethodDescriptor yX7_stretches.desc).map (fun d => d.parameters.length) = some 1 := by decide +kernel
theorem lk_10_39 : LkV 10 39 yX7_stretches cX7_stretches 2 1 (some .int) := ⟨tb_in 832 (by decide +kernel) (by decide +kernel), im_X7_stretches, se_X7_stretches, ini_7, cd_X7_stretches, pd_X7_stretches⟩
set_option maxRecDepth 20000 in
theorem cd_X7_stretch : Cond.code yX7_stretch cX7_stretch 3 (some .boolean) ∈ tbl := tb_in 839 rfl rfl
theorem im_X7_stretch : Cond.instanceMethod yX7_stretch ∈ tbl := tb_in 838 (by decide +kernel) (by decide +kernel)
theorem se_X7_stretch : Cond.selects yX7_stretch.cls yX7_stretch yX7_stretch ∈ tbl := tb_in 34 (by decide +kernel) (by decide +kernel)
theorem pd_X7_stretch : yX7_stretch.cls ≠ "java/lang/invoke/MethodHandle" ∧ yX7_stretch.cls ≠ "java/lang/invoke/VarHandle" ∧ (parseMethodDescriptor yX7_stretch.desc).map (fun d => d.parameters.length) = some 1 := by decide +kernel
theorem lk_7_129 : LkV 7 129 yX7_stretch cX7_stretch 3 1 (some .boolean) := ⟨tb_in 836 (by decide +kernel) (by decide +kernel), im_X7_stretch, se_X7_stretch, ini_7, cd_X7_stretch, pd_X7_stretch⟩
set_option maxRecDepth 20000 in
theorem cd_X7_weighs : Cond.code yX7_weighs cX7_weighs 2 (some .int) ∈ tbl := tb_in 843 rfl rfl
theorem im_X7_weighs : Cond.instanceMethod yX7_weighs ∈ tbl := tb_in 841 (by decide +kernel) (by decide +kernel)
theorem se_X7_weighs : Cond.selects yX7_weighs.cls yX7_weighs yX7_weighs ∈ tbl := tb_in 842 (by decide +kernel) (by decide +kernel)
theorem pd_X7_weighs : yX7_weighs.cls ≠ "java/lang/invoke/MethodHandle" ∧ yX7_weighs.cls ≠ "java/lang/invoke/VarHandle" ∧ (parseMethodDescriptor yX7_weighs.desc).map (fun d => d.parameters.length) = some 1 := by decide +kernel
theorem lk_10_43 : LkV 10 43 yX7_weighs cX7_weighs 2 1 (some .int) := ⟨tb_in 840 (by decide +kernel) (by decide +kernel), im_X7_weighs, se_X7_weighs, ini_7, cd_X7_weighs, pd_X7_weighs⟩
set_option maxRecDepth 20000 in
theorem cd_X7_weigh : Cond.code yX7_weigh cX7_weigh 3 (some .boolean) ∈ tbl := tb_in 847 rfl rfl
theorem im_X7_weigh : Cond.instanceMethod yX7_weigh ∈ tbl := tb_in 846 (by decide +kernel) (by decide +kernel)
theorem se_X7_weigh : Cond.selects yX7_weigh.cls yX7_weigh yX7_weigh ∈ tbl := tb_in 35 (by decide +kernel) (by decide +kernel)
theorem pd_X7_weigh : yX7_weigh.cls ≠ "java/lang/invoke/MethodHandle" ∧ yX7_weigh.cls ≠ "java/lang/invoke/VarHandle" ∧ (parseMethodDescriptor yX7_weigh.desc).map (fun d => d.parameters.length) = some 1 := by decide +kernel
theorem lk_7_132 : LkV 7 132 yX7_weigh cX7_weigh 3 1 (some .boolean) := ⟨tb_in 844 (by decide +kernel) (by decide +kernel), im_X7_weigh, se_X7_weigh, ini_7, cd_X7_weigh, pd_X7_weigh⟩
set_option maxRecDepth 20000 in
theorem cd_X7_of : Cond.code yX7_of cX7_of 2 (some .int) ∈ tbl := tb_in 851 rfl rfl
theorem im_X7_of : Cond.instanceMethod yX7_of ∈ tbl := tb_in 849 (by decide +kernel) (by decide +kernel)
theorem se_X7_of : Cond.selects yX7_of.cls yX7_of yX7_of ∈ tbl := tb_in 850 (by decide +kernel) (by decide +kernel)
theorem pd_X7_of : yX7_of.cls ≠ "java/lang/invoke/MethodHandle" ∧ yX7_of.cls ≠ "java/lang/invoke/VarHandle" ∧ (parseMethodDescriptor yX7_of.desc).map (fun d => d.parameters.length) = some 1 := by decide +kernel
theorem lk_10_47 : LkV 10 47 yX7_of cX7_of 2 1 (some .int) := ⟨tb_in 848 (by decide +kernel) (by decide +kernel), im_X7_of, se_X7_of, ini_7, cd_X7_of, pd_X7_of⟩
set_option maxRecDepth 20000 in
theorem cd_X7_back : Cond.code yX7_back cX7_back 1 (some .int) ∈ tbl := tb_in 855 rfl rfl
theorem im_X7_back : Cond.instanceMethod yX7_back ∈ tbl := tb_in 853 (by decide +kernel) (by decide +kernel)
theorem se_X7_back : Cond.selects yX7_back.cls yX7_back yX7_back ∈ tbl := tb_in 854 (by decide +kernel) (by decide +kernel)
theorem pd_X7_back : yX7_back.cls ≠ "java/lang/invoke/MethodHandle" ∧ yX7_back.cls ≠ "java/lang/invoke/VarHandle" ∧ (parseMethodDescriptor yX7_back.desc).map (fun d => d.parameters.length) = some 0 := by decide +kernel
theorem lk_10_115 : LkV 10 115 yX7_back cX7_back 1 0 (some .int) := ⟨tb_in 852 (by decide +kernel) (by decide +kernel), im_X7_back, se_X7_back, ini_7, cd_X7_back, pd_X7_back⟩
set_option maxRecDepth 20000 in
theorem cd_X7_determinant : Cond.code yX7_determinant cX7_determinant 3 (some .long) ∈ tbl := tb_in 859 rfl rfl
theorem im_X7_determinant : Cond.instanceMethod yX7_determinant ∈ tbl := tb_in 857 (by decide +kernel) (by decide +kernel)
theorem se_X7_determinant : Cond.selects yX7_determinant.cls yX7_determinant yX7_determinant ∈ tbl := tb_in 858 (by decide +kernel) (by decide +kernel)
theorem pd_X7_determinant : yX7_determinant.cls ≠ "java/lang/invoke/MethodHandle" ∧ yX7_determinant.cls ≠ "java/lang/invoke/VarHandle" ∧ (parseMethodDescriptor yX7_determinant.desc).map (fun d => d.parameters.length) = some 2 := by decide +kernel
theorem lk_10_52 : LkV 10 52 yX7_determinant cX7_determinant 3 2 (some .long) := ⟨tb_in 856 (by decide +kernel) (by decide +kernel), im_X7_determinant, se_X7_determinant, ini_7, cd_X7_determinant, pd_X7_determinant⟩
set_option maxRecDepth 20000 in
theorem cd_X7_isThere : Cond.code yX7_isThere cX7_isThere 3 (some .boolean) ∈ tbl := tb_in 865 rfl rfl
theorem im_X7_isThere : Cond.instanceMethod yX7_isThere ∈ tbl := tb_in 864 (by decide +kernel) (by decide +kernel)
theorem se_X7_isThere : Cond.selects yX7_isThere.cls yX7_isThere yX7_isThere ∈ tbl := tb_in 36 (by decide +kernel) (by decide +kernel)
theorem pd_X7_isThere : yX7_isThere.cls ≠ "java/lang/invoke/MethodHandle" ∧ yX7_isThere.cls ≠ "java/lang/invoke/VarHandle" ∧ (parseMethodDescriptor yX7_isThere.desc).map (fun d => d.parameters.length) = some 2 := by decide +kernel
theorem lk_7_143 : LkV 7 143 yX7_isThere cX7_isThere 3 2 (some .boolean) := ⟨tb_in 862 (by decide +kernel) (by decide +kernel), im_X7_isThere, se_X7_isThere, ini_7, cd_X7_isThere, pd_X7_isThere⟩
set_option maxRecDepth 20000 in
theorem cd_X7_detOf : Cond.code yX7_detOf cX7_detOf 5 (some .long) ∈ tbl := tb_in 869 rfl rfl
theorem im_X7_detOf : Cond.instanceMethod yX7_detOf ∈ tbl := tb_in 868 (by decide +kernel) (by decide +kernel)
theorem se_X7_detOf : Cond.selects yX7_detOf.cls yX7_detOf yX7_detOf ∈ tbl := tb_in 37 (by decide +kernel) (by decide +kernel)
theorem pd_X7_detOf : yX7_detOf.cls ≠ "java/lang/invoke/MethodHandle" ∧ yX7_detOf.cls ≠ "java/lang/invoke/VarHandle" ∧ (parseMethodDescriptor yX7_detOf.desc).map (fun d => d.parameters.length) = some 2 := by decide +kernel
theorem lk_7_146 : LkV 7 146 yX7_detOf cX7_detOf 5 2 (some .long) := ⟨tb_in 866 (by decide +kernel) (by decide +kernel), im_X7_detOf, se_X7_detOf, ini_7, cd_X7_detOf, pd_X7_detOf⟩
set_option maxRecDepth 20000 in
theorem cd_X7_clearTable : Cond.code yX7_clearTable cX7_clearTable 11 (some .long) ∈ tbl := tb_in 873 rfl rfl
theorem im_X7_clearTable : Cond.instanceMethod yX7_clearTable ∈ tbl := tb_in 872 (by decide +kernel) (by decide +kernel)
theorem se_X7_clearTable : Cond.selects yX7_clearTable.cls yX7_clearTable yX7_clearTable ∈ tbl := tb_in 38 (by decide +kernel) (by decide +kernel)
theorem pd_X7_clearTable : yX7_clearTable.cls ≠ "java/lang/invoke/MethodHandle" ∧ yX7_clearTable.cls ≠ "java/lang/invoke/VarHandle" ∧ (parseMethodDescriptor yX7_clearTable.desc).map (fun d => d.parameters.length) = some 1 := by decide +kernel
theorem lk_7_135 : LkV 7 135 yX7_clearTable cX7_clearTable 11 1 (some .long) := ⟨tb_in 870 (by decide +kernel) (by decide +kernel), im_X7_clearTable, se_X7_clearTable, ini_7, cd_X7_clearTable, pd_X7_clearTable⟩
set_option maxRecDepth 20000 in
theorem cd_X7_polynomial : Cond.code yX7_polynomial cX7_polynomial 4 (some .long) ∈ tbl := tb_in 877 rfl rfl
theorem im_X7_polynomial : Cond.instanceMethod yX7_polynomial ∈ tbl := tb_in 875 (by decide +kernel) (by decide +kernel)
theorem se_X7_polynomial : Cond.selects yX7_polynomial.cls yX7_polynomial yX7_polynomial ∈ tbl := tb_in 876 (by decide +kernel) (by decide +kernel)
theorem pd_X7_polynomial : yX7_polynomial.cls ≠ "java/lang/invoke/MethodHandle" ∧ yX7_polynomial.cls ≠ "java/lang/invoke/VarHandle" ∧ (parseMethodDescriptor yX7_polynomial.desc).map (fun d => d.parameters.length) = some 3 := by decide +kernel
theorem lk_10_57 : LkV 10 57 yX7_polynomial cX7_polynomial 4 3 (some .long) := ⟨tb_in 874 (by decide +kernel) (by decide +kernel), im_X7_polynomial, se_X7_polynomial, ini_7, cd_X7_polynomial, pd_X7_polynomial⟩
set_option maxRecDepth 20000 in
theorem cd_X7_isPart : Cond.code yX7_isPart cX7_isPart 1 (some .boolean) ∈ tbl := tb_in 881 rfl rfl
theorem sa_X7_isPart : Cond.static yX7_isPart ∈ tbl := tb_in 880 (by decide +kernel) (by decide +kernel)
theorem pd_X7_isPart : yX7_isPart.cls ≠ "java/lang/invoke/MethodHandle" ∧ yX7_isPart.cls ≠ "java/lang/invoke/VarHandle" ∧ (parseMethodDescriptor yX7_isPart.desc).map (fun d => d.parameters.length) = some 1 := by decide +kernel
theorem lk_7_159 : LkS 7 159 yX7_isPart cX7_isPart 1 1 (some .boolean) := ⟨tb_in 879 (by decide +kernel) (by decide +kernel), sa_X7_isPart, ini_7, cd_X7_isPart, pd_X7_isPart⟩
set_option maxRecDepth 20000 in
theorem cd_X7_isPoly : Cond.code yX7_isPoly cX7_isPoly 2 (some .boolean) ∈ tbl := tb_in 885 rfl rfl
theorem im_X7_isPoly : Cond.instanceMethod yX7_isPoly ∈ tbl := tb_in 884 (by decide +kernel) (by decide +kernel)
theorem se_X7_isPoly : Cond.selects yX7_isPoly.cls yX7_isPoly yX7_isPoly ∈ tbl := tb_in 39 (by decide +kernel) (by decide +kernel)
theorem pd_X7_isPoly : yX7_isPoly.cls ≠ "java/lang/invoke/MethodHandle" ∧ yX7_isPoly.cls ≠ "java/lang/invoke/VarHandle" ∧ (parseMethodDescriptor yX7_isPoly.desc).map (fun d => d.parameters.length) = some 1 := by decide +kernel
theorem lk_7_162 : LkV 7 162 yX7_isPoly cX7_isPoly 2 1 (some .boolean) := ⟨tb_in 882 (by decide +kernel) (by decide +kernel), im_X7_isPoly, se_X7_isPoly, ini_7, cd_X7_isPoly, pd_X7_isPoly⟩
set_option maxRecDepth 20000 in
theorem cd_X7_makePoly : Cond.code yX7_makePoly cX7_makePoly 5 none ∈ tbl := tb_in 889 rfl rfl
theorem im_X7_makePoly : Cond.instanceMethod yX7_makePoly ∈ tbl := tb_in 888 (by decide +kernel) (by decide +kernel)
theorem se_X7_makePoly : Cond.selects yX7_makePoly.cls yX7_makePoly yX7_makePoly ∈ tbl := tb_in 40 (by decide +kernel) (by decide +kernel)
theorem pd_X7_makePoly : yX7_makePoly.cls ≠ "java/lang/invoke/MethodHandle" ∧ yX7_makePoly.cls ≠ "java/lang/invoke/VarHandle" ∧ (parseMethodDescriptor yX7_makePoly.desc).map (fun d => d.parameters.length) = some 1 := by decide +kernel
theorem lk_7_165 : LkV 7 165 yX7_makePoly cX7_makePoly 5 1 none := ⟨tb_in 886 (by decide +kernel) (by decide +kernel), im_X7_makePoly, se_X7_makePoly, ini_7, cd_X7_makePoly, pd_X7_makePoly⟩
set_option maxRecDepth 20000 in
theorem cd_X7_part : Cond.code yX7_part cX7_part 7 (some .long) ∈ tbl := tb_in 892 rfl rfl
theorem sa_X7_part : Cond.static yX7_part ∈ tbl := tb_in 891 (by decide +kernel) (by decide +kernel)
theorem pd_X7_part : yX7_part.cls ≠ "java/lang/invoke/MethodHandle" ∧ yX7_part.cls ≠ "java/lang/invoke/VarHandle" ∧ (parseMethodDescriptor yX7_part.desc).map (fun d => d.parameters.length) = some 3 := by decide +kernel
theorem lk_7_168 : LkS 7 168 yX7_part cX7_part 7 3 (some .long) := ⟨tb_in 890 (by decide +kernel) (by decide +kernel), sa_X7_part, ini_7, cd_X7_part, pd_X7_part⟩
set_option maxRecDepth 20000 in
theorem cd_X7_common : Cond.code yX7_common cX7_common 10 (some .long) ∈ tbl := tb_in 895 rfl rfl
theorem sa_X7_common : Cond.static yX7_common ∈ tbl := tb_in 894 (by decide +kernel) (by decide +kernel)
theorem pd_X7_common : yX7_common.cls ≠ "java/lang/invoke/MethodHandle" ∧ yX7_common.cls ≠ "java/lang/invoke/VarHandle" ∧ (parseMethodDescriptor yX7_common.desc).map (fun d => d.parameters.length) = some 2 := by decide +kernel
theorem lk_7_149 : LkS 7 149 yX7_common cX7_common 10 2 (some .long) := ⟨tb_in 893 (by decide +kernel) (by decide +kernel), sa_X7_common, ini_7, cd_X7_common, pd_X7_common⟩
set_option maxRecDepth 20000 in
theorem cd_X7_norm : Cond.code yX7_norm cX7_norm 3 (some .long) ∈ tbl := tb_in 899 rfl rfl
theorem im_X7_norm : Cond.instanceMethod yX7_norm ∈ tbl := tb_in 897 (by decide +kernel) (by decide +kernel)
theorem se_X7_norm : Cond.selects yX7_norm.cls yX7_norm yX7_norm ∈ tbl := tb_in 898 (by decide +kernel) (by decide +kernel)
theorem pd_X7_norm : yX7_norm.cls ≠ "java/lang/invoke/MethodHandle" ∧ yX7_norm.cls ≠ "java/lang/invoke/VarHandle" ∧ (parseMethodDescriptor yX7_norm.desc).map (fun d => d.parameters.length) = some 2 := by decide +kernel
theorem lk_10_61 : LkV 10 61 yX7_norm cX7_norm 3 2 (some .long) := ⟨tb_in 896 (by decide +kernel) (by decide +kernel), im_X7_norm, se_X7_norm, ini_7, cd_X7_norm, pd_X7_norm⟩
set_option maxRecDepth 20000 in
theorem cd_X7_isNorm : Cond.code yX7_isNorm cX7_isNorm 2 (some .boolean) ∈ tbl := tb_in 903 rfl rfl
theorem im_X7_isNorm : Cond.instanceMethod yX7_isNorm ∈ tbl := tb_in 902 (by decide +kernel) (by decide +kernel)
theorem se_X7_isNorm : Cond.selects yX7_isNorm.cls yX7_isNorm yX7_isNorm ∈ tbl := tb_in 41 (by decide +kernel) (by decide +kernel)
theorem pd_X7_isNorm : yX7_isNorm.cls ≠ "java/lang/invoke/MethodHandle" ∧ yX7_isNorm.cls ≠ "java/lang/invoke/VarHandle" ∧ (parseMethodDescriptor yX7_isNorm.desc).map (fun d => d.parameters.length) = some 1 := by decide +kernel
theorem lk_7_172 : LkV 7 172 yX7_isNorm cX7_isNorm 2 1 (some .boolean) := ⟨tb_in 900 (by decide +kernel) (by decide +kernel), im_X7_isNorm, se_X7_isNorm, ini_7, cd_X7_isNorm, pd_X7_isNorm⟩
set_option maxRecDepth 20000 in
theorem cd_X7_rule : Cond.code yX7_rule cX7_rule 10 (some .long) ∈ tbl := tb_in 907 rfl rfl
theorem im_X7_rule : Cond.instanceMethod yX7_rule ∈ tbl := tb_in 905 (by decide +kernel) (by decide +kernel)
theorem se_X7_rule : Cond.selects yX7_rule.cls yX7_rule yX7_rule ∈ tbl := tb_in 906 (by decide +kernel) (by decide +kernel)
theorem pd_X7_rule : yX7_rule.cls ≠ "java/lang/invoke/MethodHandle" ∧ yX7_rule.cls ≠ "java/lang/invoke/VarHandle" ∧ (parseMethodDescriptor yX7_rule.desc).map (fun d => d.parameters.length) = some 3 := by decide +kernel
theorem lk_10_65 : LkV 10 65 yX7_rule cX7_rule 10 3 (some .long) := ⟨tb_in 904 (by decide +kernel) (by decide +kernel), im_X7_rule, se_X7_rule, ini_7, cd_X7_rule, pd_X7_rule⟩
set_option maxRecDepth 20000 in
theorem cd_X7_verdict : Cond.code yX7_verdict cX7_verdict 2 (some .int) ∈ tbl := tb_in 912 rfl rfl
theorem im_X7_verdict : Cond.instanceMethod yX7_verdict ∈ tbl := tb_in 910 (by decide +kernel) (by decide +kernel)
theorem se_X7_verdict : Cond.selects yX7_verdict.cls yX7_verdict yX7_verdict ∈ tbl := tb_in 911 (by decide +kernel) (by decide +kernel)
theorem pd_X7_verdict : yX7_verdict.cls ≠ "java/lang/invoke/MethodHandle" ∧ yX7_verdict.cls ≠ "java/lang/invoke/VarHandle" ∧ (parseMethodDescriptor yX7_verdict.desc).map (fun d => d.parameters.length) = some 1 := by decide +kernel
theorem lk_10_69 : LkV 10 69 yX7_verdict cX7_verdict 2 1 (some .int) := ⟨tb_in 909 (by decide +kernel) (by decide +kernel), im_X7_verdict, se_X7_verdict, ini_7, cd_X7_verdict, pd_X7_verdict⟩
set_option maxRecDepth 20000 in
theorem cd_X7_judge : Cond.code yX7_judge cX7_judge 5 none ∈ tbl := tb_in 916 rfl rfl
theorem im_X7_judge : Cond.instanceMethod yX7_judge ∈ tbl := tb_in 915 (by decide +kernel) (by decide +kernel)
theorem se_X7_judge : Cond.selects yX7_judge.cls yX7_judge yX7_judge ∈ tbl := tb_in 42 (by decide +kernel) (by decide +kernel)
theorem pd_X7_judge : yX7_judge.cls ≠ "java/lang/invoke/MethodHandle" ∧ yX7_judge.cls ≠ "java/lang/invoke/VarHandle" ∧ (parseMethodDescriptor yX7_judge.desc).map (fun d => d.parameters.length) = some 0 := by decide +kernel
theorem lk_7_181 : LkV 7 181 yX7_judge cX7_judge 5 0 none := ⟨tb_in 913 (by decide +kernel) (by decide +kernel), im_X7_judge, se_X7_judge, ini_7, cd_X7_judge, pd_X7_judge⟩
set_option maxRecDepth 20000 in
theorem cd_X7_meanWith : Cond.code yX7_meanWith cX7_meanWith 6 (some .long) ∈ tbl := tb_in 921 rfl rfl
theorem im_X7_meanWith : Cond.instanceMethod yX7_meanWith ∈ tbl := tb_in 920 (by decide +kernel) (by decide +kernel)
theorem se_X7_meanWith : Cond.selects yX7_meanWith.cls yX7_meanWith yX7_meanWith ∈ tbl := tb_in 43 (by decide +kernel) (by decide +kernel)
theorem pd_X7_meanWith : yX7_meanWith.cls ≠ "java/lang/invoke/MethodHandle" ∧ yX7_meanWith.cls ≠ "java/lang/invoke/VarHandle" ∧ (parseMethodDescriptor yX7_meanWith.desc).map (fun d => d.parameters.length) = some 2 := by decide +kernel
theorem lk_7_178 : LkV 7 178 yX7_meanWith cX7_meanWith 6 2 (some .long) := ⟨tb_in 918 (by decide +kernel) (by decide +kernel), im_X7_meanWith, se_X7_meanWith, ini_7, cd_X7_meanWith, pd_X7_meanWith⟩
set_option maxRecDepth 20000 in
theorem cd_X7_value : Cond.code yX7_value cX7_value 7 (some .long) ∈ tbl := tb_in 925 rfl rfl
theorem im_X7_value : Cond.instanceMethod yX7_value ∈ tbl := tb_in 923 (by decide +kernel) (by decide +kernel)
theorem se_X7_value : Cond.selects yX7_value.cls yX7_value yX7_value ∈ tbl := tb_in 924 (by decide +kernel) (by decide +kernel)
theorem pd_X7_value : yX7_value.cls ≠ "java/lang/invoke/MethodHandle" ∧ yX7_value.cls ≠ "java/lang/invoke/VarHandle" ∧ (parseMethodDescriptor yX7_value.desc).map (fun d => d.parameters.length) = some 4 := by decide +kernel
theorem lk_10_74 : LkV 10 74 yX7_value cX7_value 7 4 (some .long) := ⟨tb_in 922 (by decide +kernel) (by decide +kernel), im_X7_value, se_X7_value, ini_7, cd_X7_value, pd_X7_value⟩
set_option maxRecDepth 20000 in
theorem cd_X7_isSpot : Cond.code yX7_isSpot cX7_isSpot 2 (some .boolean) ∈ tbl := tb_in 928 rfl rfl
theorem sa_X7_isSpot : Cond.static yX7_isSpot ∈ tbl := tb_in 927 (by decide +kernel) (by decide +kernel)
theorem pd_X7_isSpot : yX7_isSpot.cls ≠ "java/lang/invoke/MethodHandle" ∧ yX7_isSpot.cls ≠ "java/lang/invoke/VarHandle" ∧ (parseMethodDescriptor yX7_isSpot.desc).map (fun d => d.parameters.length) = some 2 := by decide +kernel
theorem lk_7_184 : LkS 7 184 yX7_isSpot cX7_isSpot 2 2 (some .boolean) := ⟨tb_in 926 (by decide +kernel) (by decide +kernel), sa_X7_isSpot, ini_7, cd_X7_isSpot, pd_X7_isSpot⟩
set_option maxRecDepth 20000 in
theorem cd_X7_polyAt : Cond.code yX7_polyAt cX7_polyAt 7 (some .long) ∈ tbl := tb_in 932 rfl rfl
theorem im_X7_polyAt : Cond.instanceMethod yX7_polyAt ∈ tbl := tb_in 931 (by decide +kernel) (by decide +kernel)
theorem se_X7_polyAt : Cond.selects yX7_polyAt.cls yX7_polyAt yX7_polyAt ∈ tbl := tb_in 44 (by decide +kernel) (by decide +kernel)
theorem pd_X7_polyAt : yX7_polyAt.cls ≠ "java/lang/invoke/MethodHandle" ∧ yX7_polyAt.cls ≠ "java/lang/invoke/VarHandle" ∧ (parseMethodDescriptor yX7_polyAt.desc).map (fun d => d.parameters.length) = some 3 := by decide +kernel
theorem lk_7_187 : LkV 7 187 yX7_polyAt cX7_polyAt 7 3 (some .long) := ⟨tb_in 929 (by decide +kernel) (by decide +kernel), im_X7_polyAt, se_X7_polyAt, ini_7, cd_X7_polyAt, pd_X7_polyAt⟩
set_option maxRecDepth 20000 in
theorem cd_X7_under : Cond.code yX7_under cX7_under 4 (some .int) ∈ tbl := tb_in 936 rfl rfl
theorem im_X7_under : Cond.instanceMethod yX7_under ∈ tbl := tb_in 934 (by decide +kernel) (by decide +kernel)
theorem se_X7_under : Cond.selects yX7_under.cls yX7_under yX7_under ∈ tbl := tb_in 935 (by decide +kernel) (by decide +kernel)
theorem pd_X7_under : yX7_under.cls ≠ "java/lang/invoke/MethodHandle" ∧ yX7_under.cls ≠ "java/lang/invoke/VarHandle" ∧ (parseMethodDescriptor yX7_under.desc).map (fun d => d.parameters.length) = some 3 := by decide +kernel
theorem lk_10_79 : LkV 10 79 yX7_under cX7_under 4 3 (some .int) := ⟨tb_in 933 (by decide +kernel) (by decide +kernel), im_X7_under, se_X7_under, ini_7, cd_X7_under, pd_X7_under⟩
set_option maxRecDepth 20000 in
theorem cd_X7_isPositive : Cond.code yX7_isPositive cX7_isPositive 4 (some .boolean) ∈ tbl := tb_in 940 rfl rfl
theorem im_X7_isPositive : Cond.instanceMethod yX7_isPositive ∈ tbl := tb_in 939 (by decide +kernel) (by decide +kernel)
theorem se_X7_isPositive : Cond.selects yX7_isPositive.cls yX7_isPositive yX7_isPositive ∈ tbl := tb_in 45 (by decide +kernel) (by decide +kernel)
theorem pd_X7_isPositive : yX7_isPositive.cls ≠ "java/lang/invoke/MethodHandle" ∧ yX7_isPositive.cls ≠ "java/lang/invoke/VarHandle" ∧ (parseMethodDescriptor yX7_isPositive.desc).map (fun d => d.parameters.length) = some 1 := by decide +kernel
theorem lk_7_191 : LkV 7 191 yX7_isPositive cX7_isPositive 4 1 (some .boolean) := ⟨tb_in 937 (by decide +kernel) (by decide +kernel), im_X7_isPositive, se_X7_isPositive, ini_7, cd_X7_isPositive, pd_X7_isPositive⟩
set_option maxRecDepth 20000 in
theorem cd_X7_belowSpot : Cond.code yX7_belowSpot cX7_belowSpot 11 (some .int) ∈ tbl := tb_in 944 rfl rfl
theorem im_X7_belowSpot : Cond.instanceMethod yX7_belowSpot ∈ tbl := tb_in 943 (by decide +kernel) (by decide +kernel)
theorem se_X7_belowSpot : Cond.selects yX7_belowSpot.cls yX7_belowSpot yX7_belowSpot ∈ tbl := tb_in 46 (by decide +kernel) (by decide +kernel)
theorem pd_X7_belowSpot : yX7_belowSpot.cls ≠ "java/lang/invoke/MethodHandle" ∧ yX7_belowSpot.cls ≠ "java/lang/invoke/VarHandle" ∧ (parseMethodDescriptor yX7_belowSpot.desc).map (fun d => d.parameters.length) = some 3 := by decide +kernel
theorem lk_7_194 : LkV 7 194 yX7_belowSpot cX7_belowSpot 11 3 (some .int) := ⟨tb_in 941 (by decide +kernel) (by decide +kernel), im_X7_belowSpot, se_X7_belowSpot, ini_7, cd_X7_belowSpot, pd_X7_belowSpot⟩
set_option maxRecDepth 20000 in
theorem cd_X7_zero : Cond.code yX7_zero cX7_zero 7 (some .int) ∈ tbl := tb_in 948 rfl rfl
theorem im_X7_zero : Cond.instanceMethod yX7_zero ∈ tbl := tb_in 946 (by decide +kernel) (by decide +kernel)
theorem se_X7_zero : Cond.selects yX7_zero.cls yX7_zero yX7_zero ∈ tbl := tb_in 947 (by decide +kernel) (by decide +kernel)
theorem pd_X7_zero : yX7_zero.cls ≠ "java/lang/invoke/MethodHandle" ∧ yX7_zero.cls ≠ "java/lang/invoke/VarHandle" ∧ (parseMethodDescriptor yX7_zero.desc).map (fun d => d.parameters.length) = some 3 := by decide +kernel
theorem lk_10_83 : LkV 10 83 yX7_zero cX7_zero 7 3 (some .int) := ⟨tb_in 945 (by decide +kernel) (by decide +kernel), im_X7_zero, se_X7_zero, ini_7, cd_X7_zero, pd_X7_zero⟩
set_option maxRecDepth 20000 in
theorem cd_X7_weight : Cond.code yX7_weight cX7_weight 9 (some .long) ∈ tbl := tb_in 952 rfl rfl
theorem im_X7_weight : Cond.instanceMethod yX7_weight ∈ tbl := tb_in 950 (by decide +kernel) (by decide +kernel)
theorem se_X7_weight : Cond.selects yX7_weight.cls yX7_weight yX7_weight ∈ tbl := tb_in 951 (by decide +kernel) (by decide +kernel)
theorem pd_X7_weight : yX7_weight.cls ≠ "java/lang/invoke/MethodHandle" ∧ yX7_weight.cls ≠ "java/lang/invoke/VarHandle" ∧ (parseMethodDescriptor yX7_weight.desc).map (fun d => d.parameters.length) = some 3 := by decide +kernel
theorem lk_10_87 : LkV 10 87 yX7_weight cX7_weight 9 3 (some .long) := ⟨tb_in 949 (by decide +kernel) (by decide +kernel), im_X7_weight, se_X7_weight, ini_7, cd_X7_weight, pd_X7_weight⟩
set_option maxRecDepth 20000 in
theorem cd_X7_isSet : Cond.code yX7_isSet cX7_isSet 1 (some .boolean) ∈ tbl := tb_in 955 rfl rfl
theorem sa_X7_isSet : Cond.static yX7_isSet ∈ tbl := tb_in 954 (by decide +kernel) (by decide +kernel)
theorem pd_X7_isSet : yX7_isSet.cls ≠ "java/lang/invoke/MethodHandle" ∧ yX7_isSet.cls ≠ "java/lang/invoke/VarHandle" ∧ (parseMethodDescriptor yX7_isSet.desc).map (fun d => d.parameters.length) = some 1 := by decide +kernel
theorem lk_7_207 : LkS 7 207 yX7_isSet cX7_isSet 1 1 (some .boolean) := ⟨tb_in 953 (by decide +kernel) (by decide +kernel), sa_X7_isSet, ini_7, cd_X7_isSet, pd_X7_isSet⟩
set_option maxRecDepth 20000 in
theorem cd_X7_size : Cond.code yX7_size cX7_size 3 (some .int) ∈ tbl := tb_in 959 rfl rfl
theorem sa_X7_size : Cond.static yX7_size ∈ tbl := tb_in 958 (by decide +kernel) (by decide +kernel)
theorem pd_X7_size : yX7_size.cls ≠ "java/lang/invoke/MethodHandle" ∧ yX7_size.cls ≠ "java/lang/invoke/VarHandle" ∧ (parseMethodDescriptor yX7_size.desc).map (fun d => d.parameters.length) = some 1 := by decide +kernel
theorem lk_7_200 : LkS 7 200 yX7_size cX7_size 3 1 (some .int) := ⟨tb_in 957 (by decide +kernel) (by decide +kernel), sa_X7_size, ini_7, cd_X7_size, pd_X7_size⟩
set_option maxRecDepth 20000 in
theorem cd_X7_makeProduct : Cond.code yX7_makeProduct cX7_makeProduct 5 none ∈ tbl := tb_in 963 rfl rfl
theorem im_X7_makeProduct : Cond.instanceMethod yX7_makeProduct ∈ tbl := tb_in 962 (by decide +kernel) (by decide +kernel)
theorem se_X7_makeProduct : Cond.selects yX7_makeProduct.cls yX7_makeProduct yX7_makeProduct ∈ tbl := tb_in 47 (by decide +kernel) (by decide +kernel)
theorem pd_X7_makeProduct : yX7_makeProduct.cls ≠ "java/lang/invoke/MethodHandle" ∧ yX7_makeProduct.cls ≠ "java/lang/invoke/VarHandle" ∧ (parseMethodDescriptor yX7_makeProduct.desc).map (fun d => d.parameters.length) = some 2 := by decide +kernel
theorem lk_7_210 : LkV 7 210 yX7_makeProduct cX7_makeProduct 5 2 none := ⟨tb_in 960 (by decide +kernel) (by decide +kernel), im_X7_makeProduct, se_X7_makeProduct, ini_7, cd_X7_makeProduct, pd_X7_makeProduct⟩
set_option maxRecDepth 20000 in
theorem cd_X7_exact : Cond.code yX7_exact cX7_exact 9 (some .int) ∈ tbl := tb_in 967 rfl rfl
theorem im_X7_exact : Cond.instanceMethod yX7_exact ∈ tbl := tb_in 965 (by decide +kernel) (by decide +kernel)
theorem se_X7_exact : Cond.selects yX7_exact.cls yX7_exact yX7_exact ∈ tbl := tb_in 966 (by decide +kernel) (by decide +kernel)
theorem pd_X7_exact : yX7_exact.cls ≠ "java/lang/invoke/MethodHandle" ∧ yX7_exact.cls ≠ "java/lang/invoke/VarHandle" ∧ (parseMethodDescriptor yX7_exact.desc).map (fun d => d.parameters.length) = some 1 := by decide +kernel
theorem lk_10_91 : LkV 10 91 yX7_exact cX7_exact 9 1 (some .int) := ⟨tb_in 964 (by decide +kernel) (by decide +kernel), im_X7_exact, se_X7_exact, ini_7, cd_X7_exact, pd_X7_exact⟩
set_option maxRecDepth 20000 in
theorem cd_X7_fraction : Cond.code yX7_fraction cX7_fraction 11 (some .long) ∈ tbl := tb_in 971 rfl rfl
theorem im_X7_fraction : Cond.instanceMethod yX7_fraction ∈ tbl := tb_in 969 (by decide +kernel) (by decide +kernel)
theorem se_X7_fraction : Cond.selects yX7_fraction.cls yX7_fraction yX7_fraction ∈ tbl := tb_in 970 (by decide +kernel) (by decide +kernel)
theorem pd_X7_fraction : yX7_fraction.cls ≠ "java/lang/invoke/MethodHandle" ∧ yX7_fraction.cls ≠ "java/lang/invoke/VarHandle" ∧ (parseMethodDescriptor yX7_fraction.desc).map (fun d => d.parameters.length) = some 4 := by decide +kernel
theorem lk_10_95 : LkV 10 95 yX7_fraction cX7_fraction 11 4 (some .long) := ⟨tb_in 968 (by decide +kernel) (by decide +kernel), im_X7_fraction, se_X7_fraction, ini_7, cd_X7_fraction, pd_X7_fraction⟩
set_option maxRecDepth 20000 in
theorem cd_X7_step : Cond.code yX7_step cX7_step 10 (some .long) ∈ tbl := tb_in 977 rfl rfl
theorem im_X7_step : Cond.instanceMethod yX7_step ∈ tbl := tb_in 975 (by decide +kernel) (by decide +kernel)
theorem se_X7_step : Cond.selects yX7_step.cls yX7_step yX7_step ∈ tbl := tb_in 976 (by decide +kernel) (by decide +kernel)
theorem pd_X7_step : yX7_step.cls ≠ "java/lang/invoke/MethodHandle" ∧ yX7_step.cls ≠ "java/lang/invoke/VarHandle" ∧ (parseMethodDescriptor yX7_step.desc).map (fun d => d.parameters.length) = some 2 := by decide +kernel
theorem lk_10_99 : LkV 10 99 yX7_step cX7_step 10 2 (some .long) := ⟨tb_in 974 (by decide +kernel) (by decide +kernel), im_X7_step, se_X7_step, ini_7, cd_X7_step, pd_X7_step⟩
set_option maxRecDepth 20000 in
theorem cd_X7_type : Cond.code yX7_type cX7_type 2 (some .int) ∈ tbl := tb_in 981 rfl rfl
theorem im_X7_type : Cond.instanceMethod yX7_type ∈ tbl := tb_in 979 (by decide +kernel) (by decide +kernel)
theorem se_X7_type : Cond.selects yX7_type.cls yX7_type yX7_type ∈ tbl := tb_in 980 (by decide +kernel) (by decide +kernel)
theorem pd_X7_type : yX7_type.cls ≠ "java/lang/invoke/MethodHandle" ∧ yX7_type.cls ≠ "java/lang/invoke/VarHandle" ∧ (parseMethodDescriptor yX7_type.desc).map (fun d => d.parameters.length) = some 1 := by decide +kernel
theorem lk_10_103 : LkV 10 103 yX7_type cX7_type 2 1 (some .int) := ⟨tb_in 978 (by decide +kernel) (by decide +kernel), im_X7_type, se_X7_type, ini_7, cd_X7_type, pd_X7_type⟩
set_option maxRecDepth 20000 in
theorem cd_X7_clear : Cond.code yX7_clear cX7_clear 2 (some .int) ∈ tbl := tb_in 986 rfl rfl
theorem im_X7_clear : Cond.instanceMethod yX7_clear ∈ tbl := tb_in 984 (by decide +kernel) (by decide +kernel)
theorem se_X7_clear : Cond.selects yX7_clear.cls yX7_clear yX7_clear ∈ tbl := tb_in 985 (by decide +kernel) (by decide +kernel)
theorem pd_X7_clear : yX7_clear.cls ≠ "java/lang/invoke/MethodHandle" ∧ yX7_clear.cls ≠ "java/lang/invoke/VarHandle" ∧ (parseMethodDescriptor yX7_clear.desc).map (fun d => d.parameters.length) = some 0 := by decide +kernel
theorem lk_10_107 : LkV 10 107 yX7_clear cX7_clear 2 0 (some .int) := ⟨tb_in 983 (by decide +kernel) (by decide +kernel), im_X7_clear, se_X7_clear, ini_7, cd_X7_clear, pd_X7_clear⟩
set_option maxRecDepth 20000 in
theorem cd_X7_reads : Cond.code yX7_reads cX7_reads 3 (some .int) ∈ tbl := tb_in 990 rfl rfl
theorem im_X7_reads : Cond.instanceMethod yX7_reads ∈ tbl := tb_in 988 (by decide +kernel) (by decide +kernel)
theorem se_X7_reads : Cond.selects yX7_reads.cls yX7_reads yX7_reads ∈ tbl := tb_in 989 (by decide +kernel) (by decide +kernel)
theorem pd_X7_reads : yX7_reads.cls ≠ "java/lang/invoke/MethodHandle" ∧ yX7_reads.cls ≠ "java/lang/invoke/VarHandle" ∧ (parseMethodDescriptor yX7_reads.desc).map (fun d => d.parameters.length) = some 0 := by decide +kernel
theorem lk_10_111 : LkV 10 111 yX7_reads cX7_reads 3 0 (some .int) := ⟨tb_in 987 (by decide +kernel) (by decide +kernel), im_X7_reads, se_X7_reads, ini_7, cd_X7_reads, pd_X7_reads⟩
set_option maxRecDepth 20000 in
theorem cd_X7_readText : Cond.code yX7_readText cX7_readText 2 (some .int) ∈ tbl := tb_in 994 rfl rfl
theorem im_X7_readText : Cond.instanceMethod yX7_readText ∈ tbl := tb_in 993 (by decide +kernel) (by decide +kernel)
theorem se_X7_readText : Cond.selects yX7_readText.cls yX7_readText yX7_readText ∈ tbl := tb_in 48 (by decide +kernel) (by decide +kernel)
theorem pd_X7_readText : yX7_readText.cls ≠ "java/lang/invoke/MethodHandle" ∧ yX7_readText.cls ≠ "java/lang/invoke/VarHandle" ∧ (parseMethodDescriptor yX7_readText.desc).map (fun d => d.parameters.length) = some 0 := by decide +kernel
theorem lk_7_268 : LkV 7 268 yX7_readText cX7_readText 2 0 (some .int) := ⟨tb_in 991 (by decide +kernel) (by decide +kernel), im_X7_readText, se_X7_readText, ini_7, cd_X7_readText, pd_X7_readText⟩
set_option maxRecDepth 20000 in
theorem cd_X7_readByte : Cond.code yX7_readByte cX7_readByte 4 (some .boolean) ∈ tbl := tb_in 998 rfl rfl
theorem im_X7_readByte : Cond.instanceMethod yX7_readByte ∈ tbl := tb_in 997 (by decide +kernel) (by decide +kernel)
theorem se_X7_readByte : Cond.selects yX7_readByte.cls yX7_readByte yX7_readByte ∈ tbl := tb_in 49 (by decide +kernel) (by decide +kernel)
theorem pd_X7_readByte : yX7_readByte.cls ≠ "java/lang/invoke/MethodHandle" ∧ yX7_readByte.cls ≠ "java/lang/invoke/VarHandle" ∧ (parseMethodDescriptor yX7_readByte.desc).map (fun d => d.parameters.length) = some 1 := by decide +kernel
theorem lk_7_262 : LkV 7 262 yX7_readByte cX7_readByte 4 1 (some .boolean) := ⟨tb_in 995 (by decide +kernel) (by decide +kernel), im_X7_readByte, se_X7_readByte, ini_7, cd_X7_readByte, pd_X7_readByte⟩
set_option maxRecDepth 20000 in
theorem cd_X7_isLetter : Cond.code yX7_isLetter cX7_isLetter 1 (some .boolean) ∈ tbl := tb_in 1001 rfl rfl
theorem sa_X7_isLetter : Cond.static yX7_isLetter ∈ tbl := tb_in 1000 (by decide +kernel) (by decide +kernel)
theorem pd_X7_isLetter : yX7_isLetter.cls ≠ "java/lang/invoke/MethodHandle" ∧ yX7_isLetter.cls ≠ "java/lang/invoke/VarHandle" ∧ (parseMethodDescriptor yX7_isLetter.desc).map (fun d => d.parameters.length) = some 1 := by decide +kernel
theorem lk_7_245 : LkS 7 245 yX7_isLetter cX7_isLetter 1 1 (some .boolean) := ⟨tb_in 999 (by decide +kernel) (by decide +kernel), sa_X7_isLetter, ini_7, cd_X7_isLetter, pd_X7_isLetter⟩
set_option maxRecDepth 20000 in
theorem cd_X7_beginNumber : Cond.code yX7_beginNumber cX7_beginNumber 2 (some .boolean) ∈ tbl := tb_in 1007 rfl rfl
theorem im_X7_beginNumber : Cond.instanceMethod yX7_beginNumber ∈ tbl := tb_in 1006 (by decide +kernel) (by decide +kernel)
theorem se_X7_beginNumber : Cond.selects yX7_beginNumber.cls yX7_beginNumber yX7_beginNumber ∈ tbl := tb_in 50 (by decide +kernel) (by decide +kernel)
theorem pd_X7_beginNumber : yX7_beginNumber.cls ≠ "java/lang/invoke/MethodHandle" ∧ yX7_beginNumber.cls ≠ "java/lang/invoke/VarHandle" ∧ (parseMethodDescriptor yX7_beginNumber.desc).map (fun d => d.parameters.length) = some 1 := by decide +kernel
theorem lk_7_255 : LkV 7 255 yX7_beginNumber cX7_beginNumber 2 1 (some .boolean) := ⟨tb_in 1004 (by decide +kernel) (by decide +kernel), im_X7_beginNumber, se_X7_beginNumber, ini_7, cd_X7_beginNumber, pd_X7_beginNumber⟩
set_option maxRecDepth 20000 in
theorem cd_X7_mostNumbers : Cond.code yX7_mostNumbers cX7_mostNumbers 1 (some .int) ∈ tbl := tb_in 1010 rfl rfl
theorem sa_X7_mostNumbers : Cond.static yX7_mostNumbers ∈ tbl := tb_in 1009 (by decide +kernel) (by decide +kernel)
theorem pd_X7_mostNumbers : yX7_mostNumbers.cls ≠ "java/lang/invoke/MethodHandle" ∧ yX7_mostNumbers.cls ≠ "java/lang/invoke/VarHandle" ∧ (parseMethodDescriptor yX7_mostNumbers.desc).map (fun d => d.parameters.length) = some 1 := by decide +kernel
theorem lk_7_223 : LkS 7 223 yX7_mostNumbers cX7_mostNumbers 1 1 (some .int) := ⟨tb_in 1008 (by decide +kernel) (by decide +kernel), sa_X7_mostNumbers, ini_7, cd_X7_mostNumbers, pd_X7_mostNumbers⟩
set_option maxRecDepth 20000 in
theorem cd_X7_leastNumbers : Cond.code yX7_leastNumbers cX7_leastNumbers 1 (some .int) ∈ tbl := tb_in 1013 rfl rfl
theorem sa_X7_leastNumbers : Cond.static yX7_leastNumbers ∈ tbl := tb_in 1012 (by decide +kernel) (by decide +kernel)
theorem pd_X7_leastNumbers : yX7_leastNumbers.cls ≠ "java/lang/invoke/MethodHandle" ∧ yX7_leastNumbers.cls ≠ "java/lang/invoke/VarHandle" ∧ (parseMethodDescriptor yX7_leastNumbers.desc).map (fun d => d.parameters.length) = some 1 := by decide +kernel
theorem lk_7_259 : LkS 7 259 yX7_leastNumbers cX7_leastNumbers 1 1 (some .int) := ⟨tb_in 1011 (by decide +kernel) (by decide +kernel), sa_X7_leastNumbers, ini_7, cd_X7_leastNumbers, pd_X7_leastNumbers⟩
set_option maxRecDepth 20000 in
theorem cd_X7_doOrder : Cond.code yX7_doOrder cX7_doOrder 7 (some .boolean) ∈ tbl := tb_in 1017 rfl rfl
theorem im_X7_doOrder : Cond.instanceMethod yX7_doOrder ∈ tbl := tb_in 1016 (by decide +kernel) (by decide +kernel)
theorem se_X7_doOrder : Cond.selects yX7_doOrder.cls yX7_doOrder yX7_doOrder ∈ tbl := tb_in 51 (by decide +kernel) (by decide +kernel)
theorem pd_X7_doOrder : yX7_doOrder.cls ≠ "java/lang/invoke/MethodHandle" ∧ yX7_doOrder.cls ≠ "java/lang/invoke/VarHandle" ∧ (parseMethodDescriptor yX7_doOrder.desc).map (fun d => d.parameters.length) = some 1 := by decide +kernel
theorem lk_7_271 : LkV 7 271 yX7_doOrder cX7_doOrder 7 1 (some .boolean) := ⟨tb_in 1014 (by decide +kernel) (by decide +kernel), im_X7_doOrder, se_X7_doOrder, ini_7, cd_X7_doOrder, pd_X7_doOrder⟩
set_option maxRecDepth 20000 in
theorem cd_X7_becomeRow : Cond.code yX7_becomeRow cX7_becomeRow 4 (some .boolean) ∈ tbl := tb_in 1021 rfl rfl
theorem im_X7_becomeRow : Cond.instanceMethod yX7_becomeRow ∈ tbl := tb_in 1020 (by decide +kernel) (by decide +kernel)
theorem se_X7_becomeRow : Cond.selects yX7_becomeRow.cls yX7_becomeRow yX7_becomeRow ∈ tbl := tb_in 52 (by decide +kernel) (by decide +kernel)
theorem pd_X7_becomeRow : yX7_becomeRow.cls ≠ "java/lang/invoke/MethodHandle" ∧ yX7_becomeRow.cls ≠ "java/lang/invoke/VarHandle" ∧ (parseMethodDescriptor yX7_becomeRow.desc).map (fun d => d.parameters.length) = some 2 := by decide +kernel
theorem lk_7_265 : LkV 7 265 yX7_becomeRow cX7_becomeRow 4 2 (some .boolean) := ⟨tb_in 1018 (by decide +kernel) (by decide +kernel), im_X7_becomeRow, se_X7_becomeRow, ini_7, cd_X7_becomeRow, pd_X7_becomeRow⟩
set_option maxRecDepth 20000 in
theorem cd_X7_told : Cond.code yX7_told cX7_told 2 (some .int) ∈ tbl := tb_in 1025 rfl rfl
theorem im_X7_told : Cond.instanceMethod yX7_told ∈ tbl := tb_in 1023 (by decide +kernel) (by decide +kernel)
theorem se_X7_told : Cond.selects yX7_told.cls yX7_told yX7_told ∈ tbl := tb_in 1024 (by decide +kernel) (by decide +kernel)
theorem pd_X7_told : yX7_told.cls ≠ "java/lang/invoke/MethodHandle" ∧ yX7_told.cls ≠ "java/lang/invoke/VarHandle" ∧ (parseMethodDescriptor yX7_told.desc).map (fun d => d.parameters.length) = some 1 := by decide +kernel
theorem lk_10_119 : LkV 10 119 yX7_told cX7_told 2 1 (some .int) := ⟨tb_in 1022 (by decide +kernel) (by decide +kernel), im_X7_told, se_X7_told, ini_7, cd_X7_told, pd_X7_told⟩
set_option maxRecDepth 20000 in
theorem cd_X7_toldOf : Cond.code yX7_toldOf cX7_toldOf 2 (some .int) ∈ tbl := tb_in 1030 rfl rfl
theorem im_X7_toldOf : Cond.instanceMethod yX7_toldOf ∈ tbl := tb_in 1029 (by decide +kernel) (by decide +kernel)
theorem se_X7_toldOf : Cond.selects yX7_toldOf.cls yX7_toldOf yX7_toldOf ∈ tbl := tb_in 53 (by decide +kernel) (by decide +kernel)
theorem pd_X7_toldOf : yX7_toldOf.cls ≠ "java/lang/invoke/MethodHandle" ∧ yX7_toldOf.cls ≠ "java/lang/invoke/VarHandle" ∧ (parseMethodDescriptor yX7_toldOf.desc).map (fun d => d.parameters.length) = some 1 := by decide +kernel
theorem lk_7_276 : LkV 7 276 yX7_toldOf cX7_toldOf 2 1 (some .int) := ⟨tb_in 1027 (by decide +kernel) (by decide +kernel), im_X7_toldOf, se_X7_toldOf, ini_7, cd_X7_toldOf, pd_X7_toldOf⟩
set_option maxRecDepth 20000 in
theorem cd_X7_digest : Cond.code yX7_digest cX7_digest 6 (some .long) ∈ tbl := tb_in 1034 rfl rfl
theorem im_X7_digest : Cond.instanceMethod yX7_digest ∈ tbl := tb_in 1032 (by decide +kernel) (by decide +kernel)
theorem se_X7_digest : Cond.selects yX7_digest.cls yX7_digest yX7_digest ∈ tbl := tb_in 1033 (by decide +kernel) (by decide +kernel)
theorem pd_X7_digest : yX7_digest.cls ≠ "java/lang/invoke/MethodHandle" ∧ yX7_digest.cls ≠ "java/lang/invoke/VarHandle" ∧ (parseMethodDescriptor yX7_digest.desc).map (fun d => d.parameters.length) = some 0 := by decide +kernel
theorem lk_10_124 : LkV 10 124 yX7_digest cX7_digest 6 0 (some .long) := ⟨tb_in 1031 (by decide +kernel) (by decide +kernel), im_X7_digest, se_X7_digest, ini_7, cd_X7_digest, pd_X7_digest⟩
theorem co_3_53 : Cond.constant (ownN 3) 53 (-1000001) ∈ tbl := tb_in 250 (by decide +kernel) (by decide +kernel)
theorem co_6_105 : Cond.constant (ownN 6) 105 (-1000001) ∈ tbl := tb_in 255 (by decide +kernel) (by decide +kernel)
theorem co_6_110 : Cond.constant (ownN 6) 110 (-1000002) ∈ tbl := tb_in 256 (by decide +kernel) (by decide +kernel)
theorem co_3_54 : Cond.constant (ownN 3) 54 (-1000003) ∈ tbl := tb_in 281 (by decide +kernel) (by decide +kernel)
theorem co_3_55 : Cond.constant (ownN 3) 55 (-1000002) ∈ tbl := tb_in 291 (by decide +kernel) (by decide +kernel)
theorem co_3_77 : Cond.constantLong (ownN 3) 77 (-500) ∈ tbl := tb_in 307 (by decide +kernel) (by decide +kernel)
theorem co_3_79 : Cond.constantLong (ownN 3) 79 (500) ∈ tbl := tb_in 308 (by decide +kernel) (by decide +kernel)
theorem co_8_265 : Cond.constant (ownN 8) 265 (1431655765) ∈ tbl := tb_in 379 (by decide +kernel) (by decide +kernel)
theorem co_8_266 : Cond.constant (ownN 8) 266 (858993459) ∈ tbl := tb_in 380 (by decide +kernel) (by decide +kernel)
theorem co_8_267 : Cond.constant (ownN 8) 267 (252645135) ∈ tbl := tb_in 381 (by decide +kernel) (by decide +kernel)
theorem co_6_235 : Cond.constant (ownN 6) 235 (-1000000) ∈ tbl := tb_in 438 (by decide +kernel) (by decide +kernel)
theorem co_6_247 : Cond.constant (ownN 6) 247 (524287) ∈ tbl := tb_in 497 (by decide +kernel) (by decide +kernel)
theorem co_6_185 : Cond.constant (ownN 6) 185 (-1000003) ∈ tbl := tb_in 539 (by decide +kernel) (by decide +kernel)
theorem co_2_88 : Cond.constant (ownN 2) 88 (-1000001) ∈ tbl := tb_in 608 (by decide +kernel) (by decide +kernel)
theorem co_6_212 : Cond.constantLong (ownN 6) 212 (2357) ∈ tbl := tb_in 656 (by decide +kernel) (by decide +kernel)
theorem co_6_214 : Cond.constantLong (ownN 6) 214 (31) ∈ tbl := tb_in 657 (by decide +kernel) (by decide +kernel)
theorem co_7_68 : Cond.constantLong (ownN 7) 68 (-500) ∈ tbl := tb_in 751 (by decide +kernel) (by decide +kernel)
theorem co_7_70 : Cond.constantLong (ownN 7) 70 (500) ∈ tbl := tb_in 752 (by decide +kernel) (by decide +kernel)
theorem co_7_53 : Cond.constant (ownN 7) 53 (-1000001) ∈ tbl := tb_in 757 (by decide +kernel) (by decide +kernel)
theorem co_7_55 : Cond.constant (ownN 7) 55 (-1000003) ∈ tbl := tb_in 774 (by decide +kernel) (by decide +kernel)
theorem co_7_54 : Cond.constant (ownN 7) 54 (-1000002) ∈ tbl := tb_in 787 (by decide +kernel) (by decide +kernel)
theorem co_7_105 : Cond.constantLong (ownN 7) 105 (-9) ∈ tbl := tb_in 799 (by decide +kernel) (by decide +kernel)
theorem co_7_107 : Cond.constantLong (ownN 7) 107 (9) ∈ tbl := tb_in 800 (by decide +kernel) (by decide +kernel)
theorem co_7_109 : Cond.constantLong (ownN 7) 109 (-99) ∈ tbl := tb_in 804 (by decide +kernel) (by decide +kernel)
theorem co_7_111 : Cond.constantLong (ownN 7) 111 (99) ∈ tbl := tb_in 805 (by decide +kernel) (by decide +kernel)
theorem co_7_139 : Cond.constantLong (ownN 7) 139 (6) ∈ tbl := tb_in 860 (by decide +kernel) (by decide +kernel)
theorem co_7_141 : Cond.constantLong (ownN 7) 141 (4) ∈ tbl := tb_in 861 (by decide +kernel) (by decide +kernel)
theorem co_7_157 : Cond.constantLong (ownN 7) 157 (3) ∈ tbl := tb_in 878 (by decide +kernel) (by decide +kernel)
theorem co_7_175 : Cond.constantLong (ownN 7) 175 (2) ∈ tbl := tb_in 908 (by decide +kernel) (by decide +kernel)
theorem co_7_177 : Cond.constant (ownN 7) 177 (-1000000) ∈ tbl := tb_in 917 (by decide +kernel) (by decide +kernel)
theorem co_7_198 : Cond.constantLong (ownN 7) 198 (524287) ∈ tbl := tb_in 956 (by decide +kernel) (by decide +kernel)
theorem co_7_214 : Cond.constantLong (ownN 7) 214 (-20) ∈ tbl := tb_in 972 (by decide +kernel) (by decide +kernel)
theorem co_7_216 : Cond.constantLong (ownN 7) 216 (20) ∈ tbl := tb_in 973 (by decide +kernel) (by decide +kernel)
theorem co_7_218 : Cond.constantLong (ownN 7) 218 (127) ∈ tbl := tb_in 982 (by decide +kernel) (by decide +kernel)
theorem co_7_248 : Cond.constantLong (ownN 7) 248 (48) ∈ tbl := tb_in 1002 (by decide +kernel) (by decide +kernel)
theorem co_7_250 : Cond.constantLong (ownN 7) 250 (57) ∈ tbl := tb_in 1003 (by decide +kernel) (by decide +kernel)
theorem co_7_274 : Cond.constantLong (ownN 7) 274 (5) ∈ tbl := tb_in 1026 (by decide +kernel) (by decide +kernel)
theorem co_7_279 : Cond.constantLong (ownN 7) 279 (2357) ∈ tbl := tb_in 1035 (by decide +kernel) (by decide +kernel)
theorem co_7_281 : Cond.constantLong (ownN 7) 281 (31) ∈ tbl := tb_in 1036 (by decide +kernel) (by decide +kernel)
end
section
def wProd (cy : Nat → ClassId) (b : Nat) (d : Int32) (n : Nat → Int64) : List va_E := [.inr (1, [.ref (b + 1), .int d]), .inl (cy 1, 8, .inr (.inl n))]
def wRow (cy : Nat → ClassId) (b : Nat) (K : Int32) (f : Nat → Int32) (g : Nat → Int64) (pd : Int32) (pn : Nat → Int64) : List va_E := [.inr (3, [.ref (b + 1), .ref (b + 2), .ref (b + 3), .int K]), .inl (cy 0, 7, .inl f), .inl (cy 1, 7, .inr (.inl g)), .inr (1, [.ref (b + 4), .int pd]), .inl (cy 1, 8, .inr (.inl pn))]
def wMin (cy : Nat → ClassId) (b : Nat) (c : Int32) (m : Nat → Int64) : List va_E := [.inr (0, [.ref (b + 1), .int c]), .inl (cy 1, 16, .inr (.inl m))]
def wStates (cy : Nat → ClassId) (b : Nat) (vo : Int32) (vd : Int32) (vs : Nat → Int32) : List va_E := [.inr (4, [.ref (b + 1), .int vo, .int vd]), .inl (cy 0, 48, .inl vs)]
def wText (cy : Nat → ClassId) (b : Nat) (tl : Int32) (tb : Nat → Int32) : List va_E := [.inr (5, [.ref (b + 1), .int tl]), .inl (cy 2, 100, .inl tb)]
def wReader (cy : Nat → ClassId) (b : Nat) (eo : Int32) (et : Int32) (ed : Int32) (em : Bool) (ef : Int32) (ez : Int32) (ek : Nat → Int32) (es : Nat → Int32) (en : Nat → Int32) : List va_E := [.inr (2, [.ref (b + 1), .ref (b + 2), .ref (b + 3), .int eo, .int et, .int ed, .int (bI em), .int ef, .int ez]), .inl (cy 0, 50, .inl ek), .inl (cy 0, 51, .inl es), .inl (cy 0, 100, .inl en)]
def wArr (cy : Nat → ClassId) (b : Nat) (ar : Nat → Int32) : List va_E := [.inl (cy 0, 48, .inl ar)]
def wSR (cy : Nat → ClassId) (kb : Int32) (kn : Int32) (kf : Int32) (rK : Int32) (rf : Nat → Int32) (rg : Nat → Int64) (rpd : Int32) (rpn : Nat → Int64) (sK : Int32) (sf : Nat → Int32) (sg : Nat → Int64) (spd : Int32) (spn : Nat → Int64) (mc : Int32) (mm : Nat → Int64) (nc : Int32) (nm : Nat → Int64) (pd : Int32) (pn : Nat → Int64) (vo : Int32) (vd : Int32) (vs : Nat → Int32) (tl : Int32) (tb : Nat → Int32) (eo : Int32) (et : Int32) (ed : Int32) (em : Bool) (ef : Int32) (ez : Int32) (ek : Nat → Int32) (es : Nat → Int32) (en : Nat → Int32) (fi : Nat → Int32) : List va_E := [.inr (6, [.ref 1, .ref 6, .ref 11, .ref 13, .ref 15, .ref 17, .ref 19, .ref 21, .ref 25, .int kb, .int kn, .int kf]), .inr (3, [.ref 2, .ref 3, .ref 4, .int rK]), .inl (cy 0, 7, .inl rf), .inl (cy 1, 7, .inr (.inl rg)), .inr (1, [.ref 5, .int rpd]), .inl (cy 1, 8, .inr (.inl rpn)), .inr (3, [.ref 7, .ref 8, .ref 9, .int sK]), .inl (cy 0, 7, .inl sf), .inl (cy 1, 7, .inr (.inl sg)), .inr (1, [.ref 10, .int spd]), .inl (cy 1, 8, .inr (.inl spn)), .inr (0, [.ref 12, .int mc]), .inl (cy 1, 16, .inr (.inl mm)), .inr (0, [.ref 14, .int nc]), .inl (cy 1, 16, .inr (.inl nm)), .inr (1, [.ref 16, .int pd]), .inl (cy 1, 8, .inr (.inl pn)), .inr (4, [.ref 18, .int vo, .int vd]), .inl (cy 0, 48, .inl vs), .inr (5, [.ref 20, .int tl]), .inl (cy 2, 100, .inl tb), .inr (2, [.ref 22, .ref 23, .ref 24, .int eo, .int et, .int ed, .int (bI em), .int ef, .int ez]), .inl (cy 0, 50, .inl ek), .inl (cy 0, 51, .inl es), .inl (cy 0, 100, .inl en), .inl (cy 0, 4, .inl fi)]
def wMo (cy : Nat → ClassId) (Ms : Int32) (Mb : Int32) (Mq : Int32) (MB : Int64) (My : Int32) (ML : Int32) (Mg : Int32) (MF : Int32) (MW : Bool) (MI : Bool) (MA : Int32) (Mr : Nat → Int32) (Ma : Nat → Int32) (Mp : Nat → Int32) (Mf : Nat → Int32) (Mt : Nat → Int32) (Ml : Nat → Int32) (Mo : Nat → Int32) (Mn : Nat → Int32) (Mm : Nat → Int64) (MT : Nat → Int64) (MP : Nat → Int64) (Mv : Nat → Int32) (Mx : Nat → Int64) (Mz : Nat → Int64) : List va_E := [.inr (7, [.ref 1, .ref 2, .ref 3, .int Ms, .ref 4, .ref 5, .int Mb, .ref 6, .ref 7, .ref 8, .int Mq, .ref 9, .ref 10, .ref 11, .long MB, .ref 12, .ref 13, .int My, .ref 14, .int ML, .int Mg, .int MF, .int (bI MW), .int (bI MI), .int MA]), .inl (cy 0, 8, .inl Mr), .inl (cy 0, 8, .inl Ma), .inl (cy 0, 48, .inl Mp), .inl (cy 0, 3, .inl Mf), .inl (cy 0, 100, .inl Mt), .inl (cy 0, 100, .inl Ml), .inl (cy 0, 101, .inl Mo), .inl (cy 0, 100, .inl Mn), .inl (cy 1, 7, .inr (.inl Mm)), .inl (cy 1, 16, .inr (.inl MT)), .inl (cy 1, 4, .inr (.inl MP)), .inl (cy 0, 4, .inl Mv), .inl (cy 1, 9, .inr (.inl Mx)), .inl (cy 1, 8, .inr (.inl Mz))]
theorem G_r {k : KX} {cc : ByteArray} {o nL fr lo : Nat} {cy : Nat → ClassId} {pc : Nat} {lv : List (Nat × Value)} {st : List Value} {w : List va_E} (C : OK k cc o nL cy fr lo) (code : List AI) (pc' : Nat) (lv' : List (Nat × Value)) (st' : List Value) (w' : List va_E) (hc : chk o cc pc code = true) (hr : runs nL code (lv, st, w) = some (lv', st', w')) (hp : pcs pc code = pc') (h : G k nL pc' lv' st' w') : G k nL pc lv st w := G_run C code hc hr hp h
def tabOff (d lo1 hi : Int) (offs : Array Int) (z : Int) : Int := if z < lo1 ∨ hi < z then d else (offs[(z - lo1).toNat]?).getD d
theorem G_tab {k : KX} {cc : ByteArray} {o nL fr lo : Nat} {cy : Nat → ClassId} {pc : Nat} {lv : List (Nat × Value)} {st : List Value} {w : List va_E} (C : OK k cc o nL cy fr lo) {dflt lo1 hi : Int} {offs : Array Int} {len : Nat} {x : Int32} {tgt : Nat} (hd : decode cc pc = .ok (.tableswitch dflt lo1 hi offs, len)) (hs : (offs.size : Int) = hi - lo1 + 1) (ht : (pc : Int) + tabOff dflt lo1 hi offs x.toInt = (tgt : Int)) (h : G k nL tgt lv st w) : G k nL pc lv (.int x :: st) w := by
  unfold tabOff at ht
  by_cases c : x.toInt < lo1 ∨ hi < x.toInt
  · rw [if_pos c] at ht
    exact G_tabOut C hd c ht h
  · rw [if_neg c] at ht
    have hlt : (x.toInt - lo1).toNat < offs.size := by omega
    rw [Array.getElem?_eq_getElem hlt] at ht
    exact G_tabIn C hd rfl (by omega) (by omega) (Array.getElem?_eq_getElem hlt) ht h
theorem G_cV {k : KX} {cc : ByteArray} {o nL fr lo : Nat} {cy : Nat → ClassId} {pc : Nat} {lv : List (Nat × Value)} {st : List Value} {w : List va_E} (C : OK k cc o nL cy fr lo) {idx : Nat} {y : MethodName} {bytes : ByteArray} {maxL n : Nat} {ret : Option FieldType} {fr' lo' : Nat} (L : LkV o idx y bytes maxL n ret) (hroom : fr' + 1 ≤ fr ∧ 8 + (maxL + 11) + lo' ≤ lo) (hd : decode cc pc = .ok (.invokevirtual idx, 3))
    (ρ : List Nat) (st' : List Value) (w' : List va_E) {As : List Value} {wc wc' : List va_E} {V : Option Value} {ci : Nat} {fs : List Value} {rest : List Value} (hM : MG cy y bytes maxL ret fr' lo' (.ref 0 :: As) wc V wc') (hst : st = (As.map (reV (rl ρ))).reverse ++ .ref (rl ρ 0) :: rest) (hn : As.length = n) (hcat : (rest.map fun v => v.category).sum ≤ 8)
    (hw : (ρ.take wc.length).map (fun i => w[i]?) = wc.map (fun c => some (reE (rl ρ) c))) (hnd : va_nd (ρ.take wc.length) = true) (hr : wc[0]? = some (.inr (ci, fs)) ∧ (classes[ci]?).map (fun q => q.1) = some y.cls) (hlen : wc'.length = wc.length) (hw' : putW w ρ (wc'.map (reE (rl ρ))) = w') (hst' : (V.map (reV (rl ρ))).toList ++ rest = st')
    (h : G k nL (pc + 3) lv st' w') : G k nL pc lv st w := G_callV C L hroom hd ρ hM hst hn hcat hw hnd hr hlen hw' (by rw [hst']; exact h)
theorem G_c0 {k : KX} {cc : ByteArray} {o nL fr lo : Nat} {cy : Nat → ClassId} {pc : Nat} {lv : List (Nat × Value)} {st : List Value} {w : List va_E} (C : OK k cc o nL cy fr lo) {idx : Nat} {y : MethodName} {bytes : ByteArray} {maxL n : Nat} {ret : Option FieldType} {fr' lo' : Nat} (L : LkV o idx y bytes maxL n ret) (hroom : fr' + 1 ≤ fr ∧ 8 + (maxL + 11) + lo' ≤ lo) (hd : decode cc pc = .ok (.invokevirtual idx, 3))
    (st' : List Value) {w' : List va_E} {As : List Value} {V : Option Value} {ci : Nat} {fs : List Value} {rest : List Value} (hM : MG cy y bytes maxL ret fr' lo' (.ref 0 :: As) w V w') (hst : st = As.reverse ++ .ref 0 :: rest) (hn : As.length = n) (hcat : (rest.map fun v => v.category).sum ≤ 8)
    (hr : w[0]? = some (.inr (ci, fs)) ∧ (classes[ci]?).map (fun q => q.1) = some y.cls) (hst' : V.toList ++ rest = st') (h : G k nL (pc + 3) lv st' w') : G k nL pc lv st w := G_callV0 C L hroom hd hM hst hn hcat hr (by rw [hst']; exact h)
theorem G_cS {k : KX} {cc : ByteArray} {o nL fr lo : Nat} {cy : Nat → ClassId} {pc : Nat} {lv : List (Nat × Value)} {st : List Value} {w : List va_E} (C : OK k cc o nL cy fr lo) {idx : Nat} {y : MethodName} {bytes : ByteArray} {maxL n : Nat} {ret : Option FieldType} {fr' lo' : Nat} (L : LkS o idx y bytes maxL n ret) (hroom : fr' + 1 ≤ fr ∧ 8 + (maxL + 11) + lo' ≤ lo) (hd : decode cc pc = .ok (.invokestatic idx, 3))
    (st' : List Value) {As : List Value} {V : Option Value} {rest : List Value} (hM : MG cy y bytes maxL ret fr' lo' As [] V []) (hst : st = (As.map (reV (rl []))).reverse ++ rest) (hn : As.length = n) (hcat : (rest.map fun v => v.category).sum ≤ 8) (hst' : (V.map (reV (rl []))).toList ++ rest = st')
    (h : G k nL (pc + 3) lv st' w) : G k nL pc lv st w := G_callS C L hroom hd hM hst hn hcat (by rw [hst']; exact h)
theorem G_cN {k : KX} {cc : ByteArray} {o nL fr lo : Nat} {cy : Nat → ClassId} {pc : Nat} {lv : List (Nat × Value)} {st : List Value} {w : List va_E} (C : OK k cc o nL cy fr lo) {idx : Nat} {y : MethodName} {bytes : ByteArray} {maxL n : Nat} {ret : Option FieldType} {fr' lo' : Nat} (L : LkN o idx y bytes maxL n ret) (hroom : fr' + 1 ≤ fr ∧ 8 + (maxL + 11) + lo' ≤ lo) (hd : decode cc pc = .ok (.invokestatic idx, 3))
    (st' : List Value) {As : List Value} {V : Option Value} {rest : List Value} (hM : MG cy y bytes maxL ret fr' lo' As [] V []) (hst : st = (As.map (reV (rl []))).reverse ++ rest) (hn : As.length = n) (hcat : (rest.map fun v => v.category).sum ≤ 8) (hst' : (V.map (reV (rl []))).toList ++ rest = st')
    (h : G k nL (pc + 3) lv st' w) : G k nL pc lv st w := G_callN C L hroom hd hM hst hn hcat (by rw [hst']; exact h)
end
section
def f_X3_at (x1 : Int32) (rK : Int32) (rf : Nat → Int32) : Option Int32 := if x1 < 0 then (some (0 : Int32)) else (if rK ≤ x1 then (some (0 : Int32)) else (if x1 < (7 : Int32) then (if x1 < 0 ∨ 7 ≤ x1.toNatClampNeg then none else some (rf x1.toNatClampNeg)) else (some (0 : Int32))))
set_option maxHeartbeats 4000000 in
set_option maxRecDepth 100000 in
theorem c_X3_at (cy : Nat → ClassId) (rK : Int32) (rf : Nat → Int32) (rg : Nat → Int64) (rpd : Int32) (rpn : Nat → Int64) (x1 : Int32) (res : Int32) (h : f_X3_at x1 rK rf = some res) : MG cy yX3_at cX3_at 2 (some .int) 0 0 [.ref 0, .int x1] (wRow cy 0 rK rf rg rpd rpn) (some (.int res)) (wRow cy 0 rK rf rg rpd rpn) := by
  refine MG_of (o := 3) (lv := [(0, .ref 0), (1, .int x1)]) ⟨by decide +kernel, rfl⟩ (Nat.le_of_ble_eq_true rfl) rfl (fun k C hR => ?_)
  rw [f_X3_at] at h
  refine G_r C [(.iload_n 1, 1, 0, 0, .null)] 1 [(0, .ref 0), (1, .int x1)] [.int x1] (wRow cy 0 rK rf rg rpd rpn) (by decide +kernel) rfl rfl ?_
  refine G_if_lt C (off := 17) (tgt := 18) (by decide +kernel) rfl (fun c => ?_) (fun c => ?_)
  · rw [if_pos c] at h
    refine G_r C [(.iconst 0, 1, 0, 0, .int (0 : Int32))] 19 [(0, .ref 0), (1, .int x1)] [.int (0 : Int32)] (wRow cy 0 rK rf rg rpd rpn) (by decide +kernel) rfl rfl ?_
    refine G_goto C (off := 9) (tgt := 28) (by decide +kernel) rfl ?_
    have h := Option.some.inj h
    subst h
    exact G_iret C hR (by decide +kernel)
  · rw [if_neg c] at h
    refine G_r C [(.iload_n 1, 1, 0, 0, .null), (.aload_n 0, 1, 0, 0, .null), (.getfield 26, 3, 3, 3, .null)] 9 [(0, .ref 0), (1, .int x1)] [.int rK, .int x1] (wRow cy 0 rK rf rg rpd rpn) (by decide +kernel) rfl rfl ?_
    refine G_icmp_ge C (off := 9) (tgt := 18) (by decide +kernel) rfl (fun c => ?_) (fun c => ?_)
    · rw [if_pos c] at h
      refine G_r C [(.iconst 0, 1, 0, 0, .int (0 : Int32))] 19 [(0, .ref 0), (1, .int x1)] [.int (0 : Int32)] (wRow cy 0 rK rf rg rpd rpn) (by decide +kernel) rfl rfl ?_
      refine G_goto C (off := 9) (tgt := 28) (by decide +kernel) rfl ?_
      have h := Option.some.inj h
      subst h
      exact G_iret C hR (by decide +kernel)
    · rw [if_neg c] at h
      refine G_r C [(.iload_n 1, 1, 0, 0, .null), (.bipush 7, 2, 0, 0, .int (7 : Int32))] 15 [(0, .ref 0), (1, .int x1)] [.int (7 : Int32), .int x1] (wRow cy 0 rK rf rg rpd rpn) (by decide +kernel) rfl rfl ?_
      refine G_icmp_lt C (off := 7) (tgt := 22) (by decide +kernel) rfl (fun c => ?_) (fun c => ?_)
      · rw [if_pos c] at h
        refine G_r C [(.aload_n 0, 1, 0, 0, .null), (.getfield 9, 3, 3, 0, .null), (.iload_n 1, 1, 0, 0, .null)] 27 [(0, .ref 0), (1, .int x1)] [.int x1, .ref 1] (wRow cy 0 rK rf rg rpd rpn) (by decide +kernel) rfl rfl ?_
        obtain ⟨cg, h⟩ := oob h
        refine G_iald C (a := 1) rfl cg (by decide +kernel) ?_
        have h := Option.some.inj h
        subst h
        exact G_iret C hR (by decide +kernel)
      · rw [if_neg c] at h
        refine G_r C [(.iconst 0, 1, 0, 0, .int (0 : Int32))] 19 [(0, .ref 0), (1, .int x1)] [.int (0 : Int32)] (wRow cy 0 rK rf rg rpd rpn) (by decide +kernel) rfl rfl ?_
        refine G_goto C (off := 9) (tgt := 28) (by decide +kernel) rfl ?_
        have h := Option.some.inj h
        subst h
        exact G_iret C hR (by decide +kernel)
def f_X3_size (rK : Int32) : Option Int32 := some rK
set_option maxHeartbeats 4000000 in
set_option maxRecDepth 100000 in
theorem c_X3_size (cy : Nat → ClassId) (rK : Int32) (rf : Nat → Int32) (rg : Nat → Int64) (rpd : Int32) (rpn : Nat → Int64)  (res : Int32) (h : f_X3_size rK = some res) : MG cy yX3_size cX3_size 1 (some .int) 0 0 [.ref 0] (wRow cy 0 rK rf rg rpd rpn) (some (.int res)) (wRow cy 0 rK rf rg rpd rpn) := by
  refine MG_of (o := 3) (lv := [(0, .ref 0)]) ⟨by decide +kernel, rfl⟩ (Nat.le_of_ble_eq_true rfl) rfl (fun k C hR => ?_)
  rw [f_X3_size] at h
  refine G_r C [(.aload_n 0, 1, 0, 0, .null), (.getfield 26, 3, 3, 3, .null)] 4 [(0, .ref 0)] [.int rK] (wRow cy 0 rK rf rg rpd rpn) (by decide +kernel) rfl rfl ?_
  have h := Option.some.inj h
  subst h
  exact G_iret C hR (by decide +kernel)
def f_X3_copy_L2 : Nat → Int32 → (Nat → Int32) → Int32 → (Nat → Int32) → Option (Nat → Int32)
  | 0, _, _, _, _ => none
  | fu + 1, x2, rf, sK, sf => if (7 : Int32) ≤ x2 then (some rf) else ((f_X3_at x2 sK sf).bind fun q1 => if x2 < 0 ∨ 7 ≤ x2.toNatClampNeg then none else f_X3_copy_L2 fu (x2 + (1 : Int32)) (upd rf x2.toNatClampNeg q1) sK sf)
def f_X3_copy (rf : Nat → Int32) (sK : Int32) (sf : Nat → Int32) : Option (Int32 × (Nat → Int32)) := (f_X3_copy_L2 200 (0 : Int32) rf sK sf).bind fun q2 => (f_X3_size sK).bind fun q3 => some (q3, q2)
set_option maxHeartbeats 4000000 in
set_option maxRecDepth 100000 in
theorem g_X3_copy_L2 {k : KX} {cy : Nat → ClassId} (C : OK k cX3_copy 3 3 cy 1 21) : ∀ (fu : Nat) (x2 : Int32) (rK : Int32) (rf : Nat → Int32) (rg : Nat → Int64) (rpd : Int32) (rpn : Nat → Int64) (sK : Int32) (sf : Nat → Int32) (sg : Nat → Int64) (spd : Int32) (spn : Nat → Int64) (res : (Nat → Int32)), (f_X3_copy_L2 fu x2 rf sK sf = some res) → G k 3 25 [(0, .ref 0), (1, .ref 5)] [] ((wRow cy 0 rK res rg rpd rpn) ++ (wRow cy 5 sK sf sg spd spn)) → G k 3 2 [(0, .ref 0), (1, .ref 5), (2, .int x2)] [] ((wRow cy 0 rK rf rg rpd rpn) ++ (wRow cy 5 sK sf sg spd spn)) := by
  intro fu
  induction fu with
  | zero =>
    intro x2 rK rf rg rpd rpn sK sf sg spd spn res h hex
    rw [f_X3_copy_L2] at h
    cases h
  | succ fu ih =>
    intro x2 rK rf rg rpd rpn sK sf sg spd spn res h hex
    rw [f_X3_copy_L2] at h
    refine G_r C [(.iload_n 2, 1, 0, 0, .null), (.bipush 7, 2, 0, 0, .int (7 : Int32))] 5 [(0, .ref 0), (1, .ref 5), (2, .int x2)] [.int (7 : Int32), .int x2] ((wRow cy 0 rK rf rg rpd rpn) ++ (wRow cy 5 sK sf sg spd spn)) (by decide +kernel) rfl rfl ?_
    refine G_icmp_ge C (off := 20) (tgt := 25) (by decide +kernel) rfl (fun c => ?_) (fun c => ?_)
    · rw [if_pos c] at h
      have h := Option.some.inj h
      subst h
      refine G_lv [0, 1] (lv' := [(0, .ref 0), (1, .ref 5)]) rfl ?_
      exact hex
    · rw [if_neg c] at h
      refine G_r C [(.aload_n 0, 1, 0, 0, .null), (.getfield 9, 3, 3, 0, .null), (.iload_n 2, 1, 0, 0, .null), (.aload_n 1, 1, 0, 0, .null), (.iload_n 2, 1, 0, 0, .null)] 15 [(0, .ref 0), (1, .ref 5), (2, .int x2)] [.int x2, .ref 5, .int x2, .ref 1] ((wRow cy 0 rK rf rg rpd rpn) ++ (wRow cy 5 sK sf sg spd spn)) (by decide +kernel) rfl rfl ?_
      obtain ⟨q1, hq1, h⟩ := obd h
      refine G_cV C lk_3_38 ⟨Nat.le_of_ble_eq_true rfl, Nat.le_of_ble_eq_true rfl⟩ (by decide +kernel) [5, 6, 7, 8, 9] [.int q1, .int x2, .ref 1] ((wRow cy 0 rK rf rg rpd rpn) ++ (wRow cy 5 sK sf sg spd spn)) (c_X3_at cy sK sf sg spd spn x2 q1 hq1) rfl rfl (Nat.le_of_ble_eq_true rfl) rfl rfl ⟨rfl, rfl⟩ rfl rfl rfl ?_
      obtain ⟨cg, h⟩ := oob h
      refine G_iast C (a := 1) (w' := ((wRow cy 0 rK (upd rf x2.toNatClampNeg q1) rg rpd rpn) ++ (wRow cy 5 sK sf sg spd spn))) rfl cg (by decide +kernel) rfl ?_
      refine G_r C [(.iinc 2 1, 3, 0, 0, .int (1 : Int32))] 22 [(2, .int (x2 + (1 : Int32))), (0, .ref 0), (1, .ref 5)] [] ((wRow cy 0 rK (upd rf x2.toNatClampNeg q1) rg rpd rpn) ++ (wRow cy 5 sK sf sg spd spn)) (by decide +kernel) rfl rfl ?_
      refine G_goto C (off := -20) (tgt := 2) (by decide +kernel) rfl ?_
      refine G_lv [1, 2, 0] (lv' := [(0, .ref 0), (1, .ref 5), (2, .int (x2 + (1 : Int32)))]) rfl ?_
      exact ih (x2 + (1 : Int32)) rK (upd rf x2.toNatClampNeg q1) rg rpd rpn sK sf sg spd spn res h hex
set_option maxHeartbeats 4000000 in
set_option maxRecDepth 100000 in
theorem c_X3_copy (cy : Nat → ClassId) (rK : Int32) (rf : Nat → Int32) (rg : Nat → Int64) (rpd : Int32) (rpn : Nat → Int64) (sK : Int32) (sf : Nat → Int32) (sg : Nat → Int64) (spd : Int32) (spn : Nat → Int64)  (res : (Int32 × (Nat → Int32))) (h : f_X3_copy rf sK sf = some res) : MG cy yX3_copy cX3_copy 3 none 1 21 [.ref 0, .ref 5] ((wRow cy 0 rK rf rg rpd rpn) ++ (wRow cy 5 sK sf sg spd spn)) none ((wRow cy 0 res.1 res.2 rg rpd rpn) ++ (wRow cy 5 sK sf sg spd spn)) := by
  refine MG_of (o := 3) (lv := [(0, .ref 0), (1, .ref 5)]) ⟨by decide +kernel, rfl⟩ (Nat.le_of_ble_eq_true rfl) rfl (fun k C hR => ?_)
  rw [f_X3_copy] at h
  refine G_r C [(.iconst 0, 1, 0, 0, .int (0 : Int32)), (.istore_n 2, 1, 0, 0, .null)] 2 [(2, .int (0 : Int32)), (0, .ref 0), (1, .ref 5)] [] ((wRow cy 0 rK rf rg rpd rpn) ++ (wRow cy 5 sK sf sg spd spn)) (by decide +kernel) rfl rfl ?_
  obtain ⟨q2, hq2, h⟩ := obd h
  refine G_lv [1, 2, 0] (lv' := [(0, .ref 0), (1, .ref 5), (2, .int (0 : Int32))]) rfl ?_
  refine g_X3_copy_L2 C 200 (0 : Int32) rK rf rg rpd rpn sK sf sg spd spn q2 hq2 ?_
  refine G_r C [(.aload_n 0, 1, 0, 0, .null), (.aload_n 1, 1, 0, 0, .null)] 27 [(0, .ref 0), (1, .ref 5)] [.ref 5, .ref 0] ((wRow cy 0 rK q2 rg rpd rpn) ++ (wRow cy 5 sK sf sg spd spn)) (by decide +kernel) rfl rfl ?_
  obtain ⟨q3, hq3, h⟩ := obd h
  refine G_cV C lk_3_42 ⟨Nat.le_of_ble_eq_true rfl, Nat.le_of_ble_eq_true rfl⟩ (by decide +kernel) [5, 6, 7, 8, 9] [.int q3, .ref 0] ((wRow cy 0 rK q2 rg rpd rpn) ++ (wRow cy 5 sK sf sg spd spn)) (c_X3_size cy sK sf sg spd spn q3 hq3) rfl rfl (Nat.le_of_ble_eq_true rfl) rfl rfl ⟨rfl, rfl⟩ rfl rfl rfl ?_
  refine G_r C [(.putfield 26, 3, 3, 3, .null)] 33 [(0, .ref 0), (1, .ref 5)] [] ((wRow cy 0 q3 q2 rg rpd rpn) ++ (wRow cy 5 sK sf sg spd spn)) (by decide +kernel) rfl rfl ?_
  have h := Option.some.inj h
  subst h
  exact G_vret C hR (by decide +kernel)
def f_X6_isOutside (x0 : Int32) (x1 : Int32) (x2 : Int32) : Option Bool := if x0 < x1 then (some true) else (if x0 ≤ x2 then (some false) else (some true))
set_option maxHeartbeats 4000000 in
set_option maxRecDepth 100000 in
theorem c_X6_isOutside (cy : Nat → ClassId)  (x0 : Int32) (x1 : Int32) (x2 : Int32) (res : Bool) (h : f_X6_isOutside x0 x1 x2 = some res) : MG cy yX6_isOutside cX6_isOutside 3 (some .boolean) 0 0 [.int x0, .int x1, .int x2] [] (some (.int (bI res))) [] := by
  refine MG_of (o := 6) (lv := [(0, .int x0), (1, .int x1), (2, .int x2)]) ⟨by decide +kernel, rfl⟩ (Nat.le_of_ble_eq_true rfl) rfl (fun k C hR => ?_)
  rw [f_X6_isOutside] at h
  refine G_r C [(.iload_n 0, 1, 0, 0, .null), (.iload_n 1, 1, 0, 0, .null)] 2 [(0, .int x0), (1, .int x1), (2, .int x2)] [.int x1, .int x0] [] (by decide +kernel) rfl rfl ?_
  refine G_icmp_lt C (off := 8) (tgt := 10) (by decide +kernel) rfl (fun c => ?_) (fun c => ?_)
  · rw [if_pos c] at h
    refine G_r C [(.iconst 1, 1, 0, 0, .int (1 : Int32))] 11 [(0, .int x0), (1, .int x1), (2, .int x2)] [.int (1 : Int32)] [] (by decide +kernel) rfl rfl ?_
    refine G_goto C (off := 4) (tgt := 15) (by decide +kernel) rfl ?_
    have h := Option.some.inj h
    subst h
    exact G_zret C (v := true) hR (by decide +kernel)
  · rw [if_neg c] at h
    refine G_r C [(.iload_n 0, 1, 0, 0, .null), (.iload_n 2, 1, 0, 0, .null)] 7 [(0, .int x0), (1, .int x1), (2, .int x2)] [.int x2, .int x0] [] (by decide +kernel) rfl rfl ?_
    refine G_icmp_le C (off := 7) (tgt := 14) (by decide +kernel) rfl (fun c => ?_) (fun c => ?_)
    · rw [if_pos c] at h
      refine G_r C [(.iconst 0, 1, 0, 0, .int (0 : Int32))] 15 [(0, .int x0), (1, .int x1), (2, .int x2)] [.int (0 : Int32)] [] (by decide +kernel) rfl rfl ?_
      have h := Option.some.inj h
      subst h
      exact G_zret C (v := false) hR (by decide +kernel)
    · rw [if_neg c] at h
      refine G_r C [(.iconst 1, 1, 0, 0, .int (1 : Int32))] 11 [(0, .int x0), (1, .int x1), (2, .int x2)] [.int (1 : Int32)] [] (by decide +kernel) rfl rfl ?_
      refine G_goto C (off := 4) (tgt := 15) (by decide +kernel) rfl ?_
      have h := Option.some.inj h
      subst h
      exact G_zret C (v := true) hR (by decide +kernel)
def f_X3_isNoMoment (x0 : Int32) : Option Bool := (f_X6_isOutside x0 (-500 : Int32) (500 : Int32)).bind fun q1 => some q1
set_option maxHeartbeats 4000000 in
set_option maxRecDepth 100000 in
theorem c_X3_isNoMoment (cy : Nat → ClassId)  (x0 : Int32) (res : Bool) (h : f_X3_isNoMoment x0 = some res) : MG cy yX3_isNoMoment cX3_isNoMoment 1 (some .boolean) 1 22 [.int x0] [] (some (.int (bI res))) [] := by
  refine MG_of (o := 3) (lv := [(0, .int x0)]) ⟨by decide +kernel, rfl⟩ (Nat.le_of_ble_eq_true rfl) rfl (fun k C hR => ?_)
  rw [f_X3_isNoMoment] at h
  refine G_r C [(.iload_n 0, 1, 0, 0, .null), (.sipush (-500), 3, 0, 0, .int (-500 : Int32)), (.sipush 500, 3, 0, 0, .int (500 : Int32))] 7 [(0, .int x0)] [.int (500 : Int32), .int (-500 : Int32), .int x0] [] (by decide +kernel) rfl rfl ?_
  obtain ⟨q1, hq1, h⟩ := obd h
  refine G_cN C lk_3_45 ⟨Nat.le_of_ble_eq_true rfl, Nat.le_of_ble_eq_true rfl⟩ (by decide +kernel) [.int (bI q1)] (c_X6_isOutside cy x0 (-500 : Int32) (500 : Int32) q1 hq1) rfl rfl (Nat.le_of_ble_eq_true rfl) rfl ?_
  have h := Option.some.inj h
  subst h
  exact G_zret C (v := q1) hR (by decide +kernel)
def f_X3_put (x1 : Int32) (x2 : Int32) (rK : Int32) (rf : Nat → Int32) : Option (Int32 × (Nat → Int32)) := (f_X6_isOutside x1 (0 : Int32) (rK - (1 : Int32))).bind fun q1 => if (bI q1) = 0 then ((f_X3_isNoMoment x2).bind fun q2 => if (bI q2) = 0 then (if x1 < 0 ∨ 7 ≤ x1.toNatClampNeg then none else some ((0 : Int32), (upd rf x1.toNatClampNeg x2))) else (some ((-1000001 : Int32), rf))) else (some ((-1000001 : Int32), rf))
set_option maxHeartbeats 4000000 in
set_option maxRecDepth 100000 in
theorem c_X3_put (cy : Nat → ClassId) (rK : Int32) (rf : Nat → Int32) (rg : Nat → Int64) (rpd : Int32) (rpn : Nat → Int64) (x1 : Int32) (x2 : Int32) (res : (Int32 × (Nat → Int32))) (h : f_X3_put x1 x2 rK rf = some res) : MG cy yX3_put cX3_put 3 (some .int) 2 42 [.ref 0, .int x1, .int x2] (wRow cy 0 rK rf rg rpd rpn) (some (.int res.1)) (wRow cy 0 rK res.2 rg rpd rpn) := by
  refine MG_of (o := 3) (lv := [(0, .ref 0), (1, .int x1), (2, .int x2)]) ⟨by decide +kernel, rfl⟩ (Nat.le_of_ble_eq_true rfl) rfl (fun k C hR => ?_)
  rw [f_X3_put] at h
  refine G_r C [(.iload_n 1, 1, 0, 0, .null), (.iconst 0, 1, 0, 0, .int (0 : Int32)), (.aload_n 0, 1, 0, 0, .null), (.getfield 26, 3, 3, 3, .null), (.iconst 1, 1, 0, 0, .int (1 : Int32)), (.isub, 1, 0, 0, .null)] 8 [(0, .ref 0), (1, .int x1), (2, .int x2)] [.int (rK - (1 : Int32)), .int (0 : Int32), .int x1] (wRow cy 0 rK rf rg rpd rpn) (by decide +kernel) rfl rfl ?_
  obtain ⟨q1, hq1, h⟩ := obd h
  refine G_cN C lk_3_45 ⟨Nat.le_of_ble_eq_true rfl, Nat.le_of_ble_eq_true rfl⟩ (by decide +kernel) [.int (bI q1)] (c_X6_isOutside cy x1 (0 : Int32) (rK - (1 : Int32)) q1 hq1) rfl rfl (Nat.le_of_ble_eq_true rfl) rfl ?_
  refine G_if_ne C (off := 10) (tgt := 21) (by decide +kernel) rfl (fun c => ?_) (fun c => ?_)
  · rw [if_neg c] at h
    refine G_ldc C co_3_53 (by decide +kernel) ?_
    have h := Option.some.inj h
    subst h
    exact G_iret C hR (by decide +kernel)
  · rw [if_pos c] at h
    refine G_r C [(.iload_n 2, 1, 0, 0, .null)] 15 [(0, .ref 0), (1, .int x1), (2, .int x2)] [.int x2] (wRow cy 0 rK rf rg rpd rpn) (by decide +kernel) rfl rfl ?_
    obtain ⟨q2, hq2, h⟩ := obd h
    refine G_cS C lk_3_49 ⟨Nat.le_of_ble_eq_true rfl, Nat.le_of_ble_eq_true rfl⟩ (by decide +kernel) [.int (bI q2)] (c_X3_isNoMoment cy x2 q2 hq2) rfl rfl (Nat.le_of_ble_eq_true rfl) rfl ?_
    refine G_if_eq C (off := 6) (tgt := 24) (by decide +kernel) rfl (fun c => ?_) (fun c => ?_)
    · rw [if_pos c] at h
      refine G_r C [(.aload_n 0, 1, 0, 0, .null), (.getfield 9, 3, 3, 0, .null), (.iload_n 1, 1, 0, 0, .null), (.iload_n 2, 1, 0, 0, .null)] 30 [(0, .ref 0), (1, .int x1), (2, .int x2)] [.int x2, .int x1, .ref 1] (wRow cy 0 rK rf rg rpd rpn) (by decide +kernel) rfl rfl ?_
      obtain ⟨cg, h⟩ := oob h
      refine G_iast C (a := 1) (w' := (wRow cy 0 rK (upd rf x1.toNatClampNeg x2) rg rpd rpn)) rfl cg (by decide +kernel) rfl ?_
      refine G_r C [(.iconst 0, 1, 0, 0, .int (0 : Int32))] 32 [(0, .ref 0), (1, .int x1), (2, .int x2)] [.int (0 : Int32)] (wRow cy 0 rK (upd rf x1.toNatClampNeg x2) rg rpd rpn) (by decide +kernel) rfl rfl ?_
      have h := Option.some.inj h
      subst h
      exact G_iret C hR (by decide +kernel)
    · rw [if_neg c] at h
      refine G_ldc C co_3_53 (by decide +kernel) ?_
      have h := Option.some.inj h
      subst h
      exact G_iret C hR (by decide +kernel)
def f_X4_place (x1 : Int32) (vo : Int32) : Option Int32 := if (6 : Int32) = 0 then none else some (((vo + x1) - (vo + x1) / (6 : Int32) * (6 : Int32)) * (8 : Int32))
set_option maxHeartbeats 4000000 in
set_option maxRecDepth 100000 in
theorem c_X4_place (cy : Nat → ClassId) (vo : Int32) (vd : Int32) (vs : Nat → Int32) (x1 : Int32) (res : Int32) (h : f_X4_place x1 vo = some res) : MG cy yX4_place cX4_place 2 (some .int) 0 0 [.ref 0, .int x1] (wStates cy 0 vo vd vs) (some (.int res)) (wStates cy 0 vo vd vs) := by
  refine MG_of (o := 4) (lv := [(0, .ref 0), (1, .int x1)]) ⟨by decide +kernel, rfl⟩ (Nat.le_of_ble_eq_true rfl) rfl (fun k C hR => ?_)
  rw [f_X4_place] at h
  refine G_r C [(.aload_n 0, 1, 0, 0, .null), (.getfield 19, 3, 4, 1, .null), (.iload_n 1, 1, 0, 0, .null), (.iadd, 1, 0, 0, .null), (.bipush 6, 2, 0, 0, .int (6 : Int32))] 8 [(0, .ref 0), (1, .int x1)] [.int (6 : Int32), .int (vo + x1)] (wStates cy 0 vo vd vs) (by decide +kernel) rfl rfl ?_
  obtain ⟨cg, h⟩ := oob h
  refine G_irem C (by decide +kernel) cg ?_
  refine G_r C [(.bipush 8, 2, 0, 0, .int (8 : Int32)), (.imul, 1, 0, 0, .null)] 12 [(0, .ref 0), (1, .int x1)] [.int (((vo + x1) - (vo + x1) / (6 : Int32) * (6 : Int32)) * (8 : Int32))] (wStates cy 0 vo vd vs) (by decide +kernel) rfl rfl ?_
  have h := Option.some.inj h
  subst h
  exact G_iret C hR (by decide +kernel)
def f_X3_save_L25 : Nat → Int32 → Int32 → Int32 → (Nat → Int32) → (Nat → Int32) → Option (Nat → Int32)
  | 0, _, _, _, _, _ => none
  | fu + 1, x2, x3, rK, rf, ar => if (7 : Int32) ≤ x3 then (some ar) else ((f_X3_at x3 rK rf).bind fun q1 => if ((x2 + (1 : Int32)) + x3) < 0 ∨ 48 ≤ ((x2 + (1 : Int32)) + x3).toNatClampNeg then none else f_X3_save_L25 fu x2 (x3 + (1 : Int32)) rK rf (upd ar ((x2 + (1 : Int32)) + x3).toNatClampNeg q1))
def f_X3_save (x2 : Int32) (rK : Int32) (rf : Nat → Int32) (ar : Nat → Int32) : Option (Nat → Int32) := if x2 < 0 then (some ar) else (if x2 ≤ (((48 : Int32) - (1 : Int32)) - (7 : Int32)) then (if x2 < 0 ∨ 48 ≤ x2.toNatClampNeg then none else (f_X3_save_L25 200 x2 (0 : Int32) rK rf (upd ar x2.toNatClampNeg rK)).bind fun q2 => some q2) else (some ar))
set_option maxHeartbeats 4000000 in
set_option maxRecDepth 100000 in
theorem g_X3_save_L25 {k : KX} {cy : Nat → ClassId} (C : OK k cX3_save 3 4 cy 1 21) : ∀ (fu : Nat) (x2 : Int32) (x3 : Int32) (rK : Int32) (rf : Nat → Int32) (rg : Nat → Int64) (rpd : Int32) (rpn : Nat → Int64) (ar : Nat → Int32) (res : (Nat → Int32)), (f_X3_save_L25 fu x2 x3 rK rf ar = some res) → G k 4 49 [] [] ((wRow cy 0 rK rf rg rpd rpn) ++ (wArr cy 5 res)) → G k 4 25 [(0, .ref 0), (1, .ref 5), (2, .int x2), (3, .int x3)] [] ((wRow cy 0 rK rf rg rpd rpn) ++ (wArr cy 5 ar)) := by
  intro fu
  induction fu with
  | zero =>
    intro x2 x3 rK rf rg rpd rpn ar res h hex
    rw [f_X3_save_L25] at h
    cases h
  | succ fu ih =>
    intro x2 x3 rK rf rg rpd rpn ar res h hex
    rw [f_X3_save_L25] at h
    refine G_r C [(.iload_n 3, 1, 0, 0, .null), (.bipush 7, 2, 0, 0, .int (7 : Int32))] 28 [(0, .ref 0), (1, .ref 5), (2, .int x2), (3, .int x3)] [.int (7 : Int32), .int x3] ((wRow cy 0 rK rf rg rpd rpn) ++ (wArr cy 5 ar)) (by decide +kernel) rfl rfl ?_
    refine G_icmp_ge C (off := 21) (tgt := 49) (by decide +kernel) rfl (fun c => ?_) (fun c => ?_)
    · rw [if_pos c] at h
      have h := Option.some.inj h
      subst h
      refine G_lv [] (lv' := []) rfl ?_
      exact hex
    · rw [if_neg c] at h
      refine G_r C [(.aload_n 1, 1, 0, 0, .null), (.iload_n 2, 1, 0, 0, .null), (.iconst 1, 1, 0, 0, .int (1 : Int32)), (.iadd, 1, 0, 0, .null), (.iload_n 3, 1, 0, 0, .null), (.iadd, 1, 0, 0, .null), (.aload_n 0, 1, 0, 0, .null), (.iload_n 3, 1, 0, 0, .null)] 39 [(0, .ref 0), (1, .ref 5), (2, .int x2), (3, .int x3)] [.int x3, .ref 0, .int ((x2 + (1 : Int32)) + x3), .ref 5] ((wRow cy 0 rK rf rg rpd rpn) ++ (wArr cy 5 ar)) (by decide +kernel) rfl rfl ?_
      obtain ⟨q1, hq1, h⟩ := obd h
      refine G_cV C lk_3_38 ⟨Nat.le_of_ble_eq_true rfl, Nat.le_of_ble_eq_true rfl⟩ (by decide +kernel) [0, 1, 2, 3, 4] [.int q1, .int ((x2 + (1 : Int32)) + x3), .ref 5] ((wRow cy 0 rK rf rg rpd rpn) ++ (wArr cy 5 ar)) (c_X3_at cy rK rf rg rpd rpn x3 q1 hq1) rfl rfl (Nat.le_of_ble_eq_true rfl) rfl rfl ⟨rfl, rfl⟩ rfl rfl rfl ?_
      obtain ⟨cg, h⟩ := oob h
      refine G_iast C (a := 5) (w' := ((wRow cy 0 rK rf rg rpd rpn) ++ (wArr cy 5 (upd ar ((x2 + (1 : Int32)) + x3).toNatClampNeg q1)))) rfl cg (by decide +kernel) rfl ?_
      refine G_r C [(.iinc 3 1, 3, 0, 0, .int (1 : Int32))] 46 [(3, .int (x3 + (1 : Int32))), (0, .ref 0), (1, .ref 5), (2, .int x2)] [] ((wRow cy 0 rK rf rg rpd rpn) ++ (wArr cy 5 (upd ar ((x2 + (1 : Int32)) + x3).toNatClampNeg q1))) (by decide +kernel) rfl rfl ?_
      refine G_goto C (off := -21) (tgt := 25) (by decide +kernel) rfl ?_
      refine G_lv [1, 2, 3, 0] (lv' := [(0, .ref 0), (1, .ref 5), (2, .int x2), (3, .int (x3 + (1 : Int32)))]) rfl ?_
      exact ih x2 (x3 + (1 : Int32)) rK rf rg rpd rpn (upd ar ((x2 + (1 : Int32)) + x3).toNatClampNeg q1) res h hex
set_option maxHeartbeats 4000000 in
set_option maxRecDepth 100000 in
theorem c_X3_save (cy : Nat → ClassId) (rK : Int32) (rf : Nat → Int32) (rg : Nat → Int64) (rpd : Int32) (rpn : Nat → Int64) (ar : Nat → Int32) (x2 : Int32) (res : (Nat → Int32)) (h : f_X3_save x2 rK rf ar = some res) : MG cy yX3_save cX3_save 4 none 1 21 [.ref 0, .ref 5, .int x2] ((wRow cy 0 rK rf rg rpd rpn) ++ (wArr cy 5 ar)) none ((wRow cy 0 rK rf rg rpd rpn) ++ (wArr cy 5 res)) := by
  refine MG_of (o := 3) (lv := [(0, .ref 0), (1, .ref 5), (2, .int x2)]) ⟨by decide +kernel, rfl⟩ (Nat.le_of_ble_eq_true rfl) rfl (fun k C hR => ?_)
  rw [f_X3_save] at h
  refine G_r C [(.iload_n 2, 1, 0, 0, .null)] 1 [(0, .ref 0), (1, .ref 5), (2, .int x2)] [.int x2] ((wRow cy 0 rK rf rg rpd rpn) ++ (wArr cy 5 ar)) (by decide +kernel) rfl rfl ?_
  refine G_if_lt C (off := 14) (tgt := 15) (by decide +kernel) rfl (fun c => ?_) (fun c => ?_)
  · rw [if_pos c] at h
    have h := Option.some.inj h
    subst h
    exact G_vret C hR (by decide +kernel)
  · rw [if_neg c] at h
    refine G_r C [(.iload_n 2, 1, 0, 0, .null), (.aload_n 1, 1, 0, 0, .null)] 6 [(0, .ref 0), (1, .ref 5), (2, .int x2)] [.ref 5, .int x2] ((wRow cy 0 rK rf rg rpd rpn) ++ (wArr cy 5 ar)) (by decide +kernel) rfl rfl ?_
    refine G_alen C (t0 := 0) (v := (48 : Int32)) rfl rfl rfl (by decide +kernel) ?_
    refine G_r C [(.iconst 1, 1, 0, 0, .int (1 : Int32)), (.isub, 1, 0, 0, .null), (.bipush 7, 2, 0, 0, .int (7 : Int32)), (.isub, 1, 0, 0, .null)] 12 [(0, .ref 0), (1, .ref 5), (2, .int x2)] [.int (((48 : Int32) - (1 : Int32)) - (7 : Int32)), .int x2] ((wRow cy 0 rK rf rg rpd rpn) ++ (wArr cy 5 ar)) (by decide +kernel) rfl rfl ?_
    refine G_icmp_le C (off := 4) (tgt := 16) (by decide +kernel) rfl (fun c => ?_) (fun c => ?_)
    · rw [if_pos c] at h
      refine G_r C [(.aload_n 1, 1, 0, 0, .null), (.iload_n 2, 1, 0, 0, .null), (.aload_n 0, 1, 0, 0, .null), (.getfield 26, 3, 3, 3, .null)] 22 [(0, .ref 0), (1, .ref 5), (2, .int x2)] [.int rK, .int x2, .ref 5] ((wRow cy 0 rK rf rg rpd rpn) ++ (wArr cy 5 ar)) (by decide +kernel) rfl rfl ?_
      obtain ⟨cg, h⟩ := oob h
      refine G_iast C (a := 5) (w' := ((wRow cy 0 rK rf rg rpd rpn) ++ (wArr cy 5 (upd ar x2.toNatClampNeg rK)))) rfl cg (by decide +kernel) rfl ?_
      refine G_r C [(.iconst 0, 1, 0, 0, .int (0 : Int32)), (.istore_n 3, 1, 0, 0, .null)] 25 [(3, .int (0 : Int32)), (0, .ref 0), (1, .ref 5), (2, .int x2)] [] ((wRow cy 0 rK rf rg rpd rpn) ++ (wArr cy 5 (upd ar x2.toNatClampNeg rK))) (by decide +kernel) rfl rfl ?_
      obtain ⟨q2, hq2, h⟩ := obd h
      refine G_lv [1, 2, 3, 0] (lv' := [(0, .ref 0), (1, .ref 5), (2, .int x2), (3, .int (0 : Int32))]) rfl ?_
      refine g_X3_save_L25 C 200 x2 (0 : Int32) rK rf rg rpd rpn (upd ar x2.toNatClampNeg rK) q2 hq2 ?_
      have h := Option.some.inj h
      subst h
      exact G_vret C hR (by decide +kernel)
    · rw [if_neg c] at h
      have h := Option.some.inj h
      subst h
      exact G_vret C hR (by decide +kernel)
def f_X4_push (vo : Int32) (vd : Int32) (vs : Nat → Int32) (rK : Int32) (rf : Nat → Int32) : Option (Int32 × Int32 × (Nat → Int32)) := if vd < (6 : Int32) then ((f_X4_place vd vo).bind fun q1 => (f_X3_save q1 rK rf vs).bind fun q2 => some (vo, (vd + (1 : Int32)), q2)) else (if (6 : Int32) = 0 then none else (f_X4_place (5 : Int32) ((vo + (1 : Int32)) - (vo + (1 : Int32)) / (6 : Int32) * (6 : Int32))).bind fun q3 => (f_X3_save q3 rK rf vs).bind fun q4 => some (((vo + (1 : Int32)) - (vo + (1 : Int32)) / (6 : Int32) * (6 : Int32)), ((5 : Int32) + (1 : Int32)), q4))
set_option maxHeartbeats 4000000 in
set_option maxRecDepth 100000 in
theorem c_X4_push (cy : Nat → ClassId) (vo : Int32) (vd : Int32) (vs : Nat → Int32) (rK : Int32) (rf : Nat → Int32) (rg : Nat → Int64) (rpd : Int32) (rpn : Nat → Int64)  (res : (Int32 × Int32 × (Nat → Int32))) (h : f_X4_push vo vd vs rK rf = some res) : MG cy yX4_push cX4_push 2 none 2 44 [.ref 0, .ref 2] ((wStates cy 0 vo vd vs) ++ (wRow cy 2 rK rf rg rpd rpn)) none ((wStates cy 0 res.1 res.2.1 res.2.2) ++ (wRow cy 2 rK rf rg rpd rpn)) := by
  refine MG_of (o := 4) (lv := [(0, .ref 0), (1, .ref 2)]) ⟨by decide +kernel, rfl⟩ (Nat.le_of_ble_eq_true rfl) rfl (fun k C hR => ?_)
  rw [f_X4_push] at h
  refine G_r C [(.aload_n 0, 1, 0, 0, .null), (.getfield 15, 3, 4, 2, .null), (.bipush 6, 2, 0, 0, .int (6 : Int32))] 6 [(0, .ref 0), (1, .ref 2)] [.int (6 : Int32), .int vd] ((wStates cy 0 vo vd vs) ++ (wRow cy 2 rK rf rg rpd rpn)) (by decide +kernel) rfl rfl ?_
  refine G_icmp_lt C (off := 21) (tgt := 27) (by decide +kernel) rfl (fun c => ?_) (fun c => ?_)
  · rw [if_pos c] at h
    refine G_r C [(.aload_n 1, 1, 0, 0, .null), (.aload_n 0, 1, 0, 0, .null), (.getfield 11, 3, 4, 0, .null), (.aload_n 0, 1, 0, 0, .null), (.aload_n 0, 1, 0, 0, .null), (.getfield 15, 3, 4, 2, .null)] 37 [(0, .ref 0), (1, .ref 2)] [.int vd, .ref 0, .ref 1, .ref 2] ((wStates cy 0 vo vd vs) ++ (wRow cy 2 rK rf rg rpd rpn)) (by decide +kernel) rfl rfl ?_
    obtain ⟨q1, hq1, h⟩ := obd h
    refine G_cV C lk_4_22 ⟨Nat.le_of_ble_eq_true rfl, Nat.le_of_ble_eq_true rfl⟩ (by decide +kernel) [0, 1] [.int q1, .ref 1, .ref 2] ((wStates cy 0 vo vd vs) ++ (wRow cy 2 rK rf rg rpd rpn)) (c_X4_place cy vo vd vs vd q1 hq1) rfl rfl (Nat.le_of_ble_eq_true rfl) rfl rfl ⟨rfl, rfl⟩ rfl rfl rfl ?_
    obtain ⟨q2, hq2, h⟩ := obd h
    refine G_cV C lk_4_26 ⟨Nat.le_of_ble_eq_true rfl, Nat.le_of_ble_eq_true rfl⟩ (by decide +kernel) [2, 3, 4, 5, 6, 1] [] ((wStates cy 0 vo vd q2) ++ (wRow cy 2 rK rf rg rpd rpn)) (c_X3_save cy rK rf rg rpd rpn vs q1 q2 hq2) rfl rfl (Nat.le_of_ble_eq_true rfl) rfl rfl ⟨rfl, rfl⟩ rfl rfl rfl ?_
    refine G_r C [(.aload_n 0, 1, 0, 0, .null), (.dup, 1, 0, 0, .null), (.getfield 15, 3, 4, 2, .null), (.iconst 1, 1, 0, 0, .int (1 : Int32)), (.iadd, 1, 0, 0, .null), (.putfield 15, 3, 4, 2, .null)] 53 [(0, .ref 0), (1, .ref 2)] [] ((wStates cy 0 vo (vd + (1 : Int32)) q2) ++ (wRow cy 2 rK rf rg rpd rpn)) (by decide +kernel) rfl rfl ?_
    have h := Option.some.inj h
    subst h
    exact G_vret C hR (by decide +kernel)
  · rw [if_neg c] at h
    refine G_r C [(.aload_n 0, 1, 0, 0, .null), (.aload_n 0, 1, 0, 0, .null), (.getfield 19, 3, 4, 1, .null), (.iconst 1, 1, 0, 0, .int (1 : Int32)), (.iadd, 1, 0, 0, .null), (.bipush 6, 2, 0, 0, .int (6 : Int32))] 18 [(0, .ref 0), (1, .ref 2)] [.int (6 : Int32), .int (vo + (1 : Int32)), .ref 0] ((wStates cy 0 vo vd vs) ++ (wRow cy 2 rK rf rg rpd rpn)) (by decide +kernel) rfl rfl ?_
    obtain ⟨cg, h⟩ := oob h
    refine G_irem C (by decide +kernel) cg ?_
    refine G_r C [(.putfield 19, 3, 4, 1, .null), (.aload_n 0, 1, 0, 0, .null), (.iconst 5, 1, 0, 0, .int (5 : Int32)), (.putfield 15, 3, 4, 2, .null), (.aload_n 1, 1, 0, 0, .null), (.aload_n 0, 1, 0, 0, .null), (.getfield 11, 3, 4, 0, .null), (.aload_n 0, 1, 0, 0, .null), (.aload_n 0, 1, 0, 0, .null), (.getfield 15, 3, 4, 2, .null)] 37 [(0, .ref 0), (1, .ref 2)] [.int (5 : Int32), .ref 0, .ref 1, .ref 2] ((wStates cy 0 ((vo + (1 : Int32)) - (vo + (1 : Int32)) / (6 : Int32) * (6 : Int32)) (5 : Int32) vs) ++ (wRow cy 2 rK rf rg rpd rpn)) (by decide +kernel) rfl rfl ?_
    obtain ⟨q3, hq3, h⟩ := obd h
    refine G_cV C lk_4_22 ⟨Nat.le_of_ble_eq_true rfl, Nat.le_of_ble_eq_true rfl⟩ (by decide +kernel) [0, 1] [.int q3, .ref 1, .ref 2] ((wStates cy 0 ((vo + (1 : Int32)) - (vo + (1 : Int32)) / (6 : Int32) * (6 : Int32)) (5 : Int32) vs) ++ (wRow cy 2 rK rf rg rpd rpn)) (c_X4_place cy ((vo + (1 : Int32)) - (vo + (1 : Int32)) / (6 : Int32) * (6 : Int32)) (5 : Int32) vs (5 : Int32) q3 hq3) rfl rfl (Nat.le_of_ble_eq_true rfl) rfl rfl ⟨rfl, rfl⟩ rfl rfl rfl ?_
    obtain ⟨q4, hq4, h⟩ := obd h
    refine G_cV C lk_4_26 ⟨Nat.le_of_ble_eq_true rfl, Nat.le_of_ble_eq_true rfl⟩ (by decide +kernel) [2, 3, 4, 5, 6, 1] [] ((wStates cy 0 ((vo + (1 : Int32)) - (vo + (1 : Int32)) / (6 : Int32) * (6 : Int32)) (5 : Int32) q4) ++ (wRow cy 2 rK rf rg rpd rpn)) (c_X3_save cy rK rf rg rpd rpn vs q3 q4 hq4) rfl rfl (Nat.le_of_ble_eq_true rfl) rfl rfl ⟨rfl, rfl⟩ rfl rfl rfl ?_
    refine G_r C [(.aload_n 0, 1, 0, 0, .null), (.dup, 1, 0, 0, .null), (.getfield 15, 3, 4, 2, .null), (.iconst 1, 1, 0, 0, .int (1 : Int32)), (.iadd, 1, 0, 0, .null), (.putfield 15, 3, 4, 2, .null)] 53 [(0, .ref 0), (1, .ref 2)] [] ((wStates cy 0 ((vo + (1 : Int32)) - (vo + (1 : Int32)) / (6 : Int32) * (6 : Int32)) ((5 : Int32) + (1 : Int32)) q4) ++ (wRow cy 2 rK rf rg rpd rpn)) (by decide +kernel) rfl rfl ?_
    have h := Option.some.inj h
    subst h
    exact G_vret C hR (by decide +kernel)
def f_X6_keepTrial (rK : Int32) (rf : Nat → Int32) (sK : Int32) (sf : Nat → Int32) (vo : Int32) (vd : Int32) (vs : Nat → Int32) : Option (Int32 × (Nat → Int32) × Int32 × Int32 × (Nat → Int32)) := (f_X4_push vo vd vs rK rf).bind fun q1 => (f_X3_copy rf sK sf).bind fun q2 => some (q2.1, q2.2, q1.1, q1.2.1, q1.2.2)
set_option maxHeartbeats 4000000 in
set_option maxRecDepth 100000 in
theorem c_X6_keepTrial (cy : Nat → ClassId) (kb : Int32) (kn : Int32) (kf : Int32) (rK : Int32) (rf : Nat → Int32) (rg : Nat → Int64) (rpd : Int32) (rpn : Nat → Int64) (sK : Int32) (sf : Nat → Int32) (sg : Nat → Int64) (spd : Int32) (spn : Nat → Int64) (mc : Int32) (mm : Nat → Int64) (nc : Int32) (nm : Nat → Int64) (pd : Int32) (pn : Nat → Int64) (vo : Int32) (vd : Int32) (vs : Nat → Int32) (tl : Int32) (tb : Nat → Int32) (eo : Int32) (et : Int32) (ed : Int32) (em : Bool) (ef : Int32) (ez : Int32) (ek : Nat → Int32) (es : Nat → Int32) (en : Nat → Int32) (fi : Nat → Int32)  (res : (Int32 × (Nat → Int32) × Int32 × Int32 × (Nat → Int32))) (h : f_X6_keepTrial rK rf sK sf vo vd vs = some res) : MG cy yX6_keepTrial cX6_keepTrial 1 none 3 65 [.ref 0] (wSR cy kb kn kf rK rf rg rpd rpn sK sf sg spd spn mc mm nc nm pd pn vo vd vs tl tb eo et ed em ef ez ek es en fi) none (wSR cy kb kn kf res.1 res.2.1 rg rpd rpn sK sf sg spd spn mc mm nc nm pd pn res.2.2.1 res.2.2.2.1 res.2.2.2.2 tl tb eo et ed em ef ez ek es en fi) := by
  refine MG_of (o := 6) (lv := [(0, .ref 0)]) ⟨by decide +kernel, rfl⟩ (Nat.le_of_ble_eq_true rfl) rfl (fun k C hR => ?_)
  rw [f_X6_keepTrial] at h
  refine G_r C [(.aload_n 0, 1, 0, 0, .null), (.getfield 39, 3, 6, 5, .null), (.aload_n 0, 1, 0, 0, .null), (.getfield 12, 3, 6, 0, .null)] 8 [(0, .ref 0)] [.ref 1, .ref 17] (wSR cy kb kn kf rK rf rg rpd rpn sK sf sg spd spn mc mm nc nm pd pn vo vd vs tl tb eo et ed em ef ez ek es en fi) (by decide +kernel) rfl rfl ?_
  obtain ⟨q1, hq1, h⟩ := obd h
  refine G_cV C lk_6_232 ⟨Nat.le_of_ble_eq_true rfl, Nat.le_of_ble_eq_true rfl⟩ (by decide +kernel) [17, 18, 1, 2, 3, 4, 5] [] (wSR cy kb kn kf rK rf rg rpd rpn sK sf sg spd spn mc mm nc nm pd pn q1.1 q1.2.1 q1.2.2 tl tb eo et ed em ef ez ek es en fi) (c_X4_push cy vo vd vs rK rf rg rpd rpn q1 hq1) rfl rfl (Nat.le_of_ble_eq_true rfl) rfl rfl ⟨rfl, rfl⟩ rfl rfl rfl ?_
  refine G_r C [(.aload_n 0, 1, 0, 0, .null), (.getfield 12, 3, 6, 0, .null), (.aload_n 0, 1, 0, 0, .null), (.getfield 16, 3, 6, 1, .null)] 19 [(0, .ref 0)] [.ref 6, .ref 1] (wSR cy kb kn kf rK rf rg rpd rpn sK sf sg spd spn mc mm nc nm pd pn q1.1 q1.2.1 q1.2.2 tl tb eo et ed em ef ez ek es en fi) (by decide +kernel) rfl rfl ?_
  obtain ⟨q2, hq2, h⟩ := obd h
  refine G_cV C lk_6_65 ⟨Nat.le_of_ble_eq_true rfl, Nat.le_of_ble_eq_true rfl⟩ (by decide +kernel) [1, 2, 3, 4, 5, 6, 7, 8, 9, 10] [] (wSR cy kb kn kf q2.1 q2.2 rg rpd rpn sK sf sg spd spn mc mm nc nm pd pn q1.1 q1.2.1 q1.2.2 tl tb eo et ed em ef ez ek es en fi) (c_X3_copy cy rK rf rg rpd rpn sK sf sg spd spn q2 hq2) rfl rfl (Nat.le_of_ble_eq_true rfl) rfl rfl ⟨rfl, rfl⟩ rfl rfl rfl ?_
  have h := Option.some.inj h
  subst h
  exact G_vret C hR (by decide +kernel)
def f_X6_refuse (x1 : Int32) (kb : Int32) (kn : Int32) (kf : Int32) : Option (Int32 × Int32 × Int32 × Int32) := if x1 = (-1000001 : Int32) then (some (x1, (kb + (1 : Int32)), kn, kf)) else (if x1 = (-1000002 : Int32) then (some (x1, kb, (kn + (1 : Int32)), kf)) else (some (x1, kb, kn, (kf + (1 : Int32)))))
set_option maxHeartbeats 4000000 in
set_option maxRecDepth 100000 in
theorem c_X6_refuse (cy : Nat → ClassId) (kb : Int32) (kn : Int32) (kf : Int32) (rK : Int32) (rf : Nat → Int32) (rg : Nat → Int64) (rpd : Int32) (rpn : Nat → Int64) (sK : Int32) (sf : Nat → Int32) (sg : Nat → Int64) (spd : Int32) (spn : Nat → Int64) (mc : Int32) (mm : Nat → Int64) (nc : Int32) (nm : Nat → Int64) (pd : Int32) (pn : Nat → Int64) (vo : Int32) (vd : Int32) (vs : Nat → Int32) (tl : Int32) (tb : Nat → Int32) (eo : Int32) (et : Int32) (ed : Int32) (em : Bool) (ef : Int32) (ez : Int32) (ek : Nat → Int32) (es : Nat → Int32) (en : Nat → Int32) (fi : Nat → Int32) (x1 : Int32) (res : (Int32 × Int32 × Int32 × Int32)) (h : f_X6_refuse x1 kb kn kf = some res) : MG cy yX6_refuse cX6_refuse 2 (some .int) 0 0 [.ref 0, .int x1] (wSR cy kb kn kf rK rf rg rpd rpn sK sf sg spd spn mc mm nc nm pd pn vo vd vs tl tb eo et ed em ef ez ek es en fi) (some (.int res.1)) (wSR cy res.2.1 res.2.2.1 res.2.2.2 rK rf rg rpd rpn sK sf sg spd spn mc mm nc nm pd pn vo vd vs tl tb eo et ed em ef ez ek es en fi) := by
  refine MG_of (o := 6) (lv := [(0, .ref 0), (1, .int x1)]) ⟨by decide +kernel, rfl⟩ (Nat.le_of_ble_eq_true rfl) rfl (fun k C hR => ?_)
  rw [f_X6_refuse] at h
  refine G_r C [(.iload_n 1, 1, 0, 0, .null)] 1 [(0, .ref 0), (1, .int x1)] [.int x1] (wSR cy kb kn kf rK rf rg rpd rpn sK sf sg spd spn mc mm nc nm pd pn vo vd vs tl tb eo et ed em ef ez ek es en fi) (by decide +kernel) rfl rfl ?_
  refine G_ldc C co_6_105 (by decide +kernel) ?_
  refine G_icmp_ne C (off := 16) (tgt := 19) (by decide +kernel) rfl (fun c => ?_) (fun c => ?_)
  · rw [if_neg c] at h
    refine G_r C [(.iload_n 1, 1, 0, 0, .null)] 20 [(0, .ref 0), (1, .int x1)] [.int x1] (wSR cy kb kn kf rK rf rg rpd rpn sK sf sg spd spn mc mm nc nm pd pn vo vd vs tl tb eo et ed em ef ez ek es en fi) (by decide +kernel) rfl rfl ?_
    refine G_ldc C co_6_110 (by decide +kernel) ?_
    refine G_icmp_ne C (off := 16) (tgt := 38) (by decide +kernel) rfl (fun c => ?_) (fun c => ?_)
    · rw [if_neg c] at h
      refine G_r C [(.aload_n 0, 1, 0, 0, .null), (.dup, 1, 0, 0, .null), (.getfield 229, 3, 6, 11, .null), (.iconst 1, 1, 0, 0, .int (1 : Int32)), (.iadd, 1, 0, 0, .null), (.putfield 229, 3, 6, 11, .null), (.iload_n 1, 1, 0, 0, .null)] 49 [(0, .ref 0), (1, .int x1)] [.int x1] (wSR cy kb kn (kf + (1 : Int32)) rK rf rg rpd rpn sK sf sg spd spn mc mm nc nm pd pn vo vd vs tl tb eo et ed em ef ez ek es en fi) (by decide +kernel) rfl rfl ?_
      have h := Option.some.inj h
      subst h
      exact G_iret C hR (by decide +kernel)
    · rw [if_pos c] at h
      refine G_r C [(.aload_n 0, 1, 0, 0, .null), (.dup, 1, 0, 0, .null), (.getfield 226, 3, 6, 10, .null), (.iconst 1, 1, 0, 0, .int (1 : Int32)), (.iadd, 1, 0, 0, .null), (.putfield 226, 3, 6, 10, .null)] 35 [(0, .ref 0), (1, .int x1)] [] (wSR cy kb (kn + (1 : Int32)) kf rK rf rg rpd rpn sK sf sg spd spn mc mm nc nm pd pn vo vd vs tl tb eo et ed em ef ez ek es en fi) (by decide +kernel) rfl rfl ?_
      refine G_goto C (off := 13) (tgt := 48) (by decide +kernel) rfl ?_
      refine G_r C [(.iload_n 1, 1, 0, 0, .null)] 49 [(0, .ref 0), (1, .int x1)] [.int x1] (wSR cy kb (kn + (1 : Int32)) kf rK rf rg rpd rpn sK sf sg spd spn mc mm nc nm pd pn vo vd vs tl tb eo et ed em ef ez ek es en fi) (by decide +kernel) rfl rfl ?_
      have h := Option.some.inj h
      subst h
      exact G_iret C hR (by decide +kernel)
  · rw [if_pos c] at h
    refine G_r C [(.aload_n 0, 1, 0, 0, .null), (.dup, 1, 0, 0, .null), (.getfield 222, 3, 6, 9, .null), (.iconst 1, 1, 0, 0, .int (1 : Int32)), (.iadd, 1, 0, 0, .null), (.putfield 222, 3, 6, 9, .null)] 16 [(0, .ref 0), (1, .int x1)] [] (wSR cy (kb + (1 : Int32)) kn kf rK rf rg rpd rpn sK sf sg spd spn mc mm nc nm pd pn vo vd vs tl tb eo et ed em ef ez ek es en fi) (by decide +kernel) rfl rfl ?_
    refine G_goto C (off := 32) (tgt := 48) (by decide +kernel) rfl ?_
    refine G_r C [(.iload_n 1, 1, 0, 0, .null)] 49 [(0, .ref 0), (1, .int x1)] [.int x1] (wSR cy (kb + (1 : Int32)) kn kf rK rf rg rpd rpn sK sf sg spd spn mc mm nc nm pd pn vo vd vs tl tb eo et ed em ef ez ek es en fi) (by decide +kernel) rfl rfl ?_
    have h := Option.some.inj h
    subst h
    exact G_iret C hR (by decide +kernel)
end
section
def f_X6_moment (x1 : Int32) (x2 : Int32) (kb : Int32) (kn : Int32) (kf : Int32) (rK : Int32) (rf : Nat → Int32) (sf : Nat → Int32) (vo : Int32) (vd : Int32) (vs : Nat → Int32) : Option (Int32 × Int32 × Int32 × Int32 × Int32 × (Nat → Int32) × Int32 × (Nat → Int32) × Int32 × Int32 × (Nat → Int32)) := (f_X3_at x1 rK rf).bind fun q1 => (f_X3_copy sf rK rf).bind fun q2 => (f_X3_put x1 x2 q2.1 q2.2).bind fun q3 => if q3.1 = 0 then ((f_X6_keepTrial rK rf q2.1 q3.2 vo vd vs).bind fun q4 => some (q1, kb, kn, kf, q4.1, q4.2.1, q2.1, q3.2, q4.2.2.1, q4.2.2.2.1, q4.2.2.2.2)) else ((f_X6_refuse q3.1 kb kn kf).bind fun q5 => some (q5.1, q5.2.1, q5.2.2.1, q5.2.2.2, rK, rf, q2.1, q3.2, vo, vd, vs))
set_option maxHeartbeats 4000000 in
set_option maxRecDepth 100000 in
theorem c_X6_moment (cy : Nat → ClassId) (kb : Int32) (kn : Int32) (kf : Int32) (rK : Int32) (rf : Nat → Int32) (rg : Nat → Int64) (rpd : Int32) (rpn : Nat → Int64) (sK : Int32) (sf : Nat → Int32) (sg : Nat → Int64) (spd : Int32) (spn : Nat → Int64) (mc : Int32) (mm : Nat → Int64) (nc : Int32) (nm : Nat → Int64) (pd : Int32) (pn : Nat → Int64) (vo : Int32) (vd : Int32) (vs : Nat → Int32) (tl : Int32) (tb : Nat → Int32) (eo : Int32) (et : Int32) (ed : Int32) (em : Bool) (ef : Int32) (ez : Int32) (ek : Nat → Int32) (es : Nat → Int32) (en : Nat → Int32) (fi : Nat → Int32) (x1 : Int32) (x2 : Int32) (res : (Int32 × Int32 × Int32 × Int32 × Int32 × (Nat → Int32) × Int32 × (Nat → Int32) × Int32 × Int32 × (Nat → Int32))) (h : f_X6_moment x1 x2 kb kn kf rK rf sf vo vd vs = some res) : MG cy yX6_moment cX6_moment 5 (some .int) 4 85 [.ref 0, .int x1, .int x2] (wSR cy kb kn kf rK rf rg rpd rpn sK sf sg spd spn mc mm nc nm pd pn vo vd vs tl tb eo et ed em ef ez ek es en fi) (some (.int res.1)) (wSR cy res.2.1 res.2.2.1 res.2.2.2.1 res.2.2.2.2.1 res.2.2.2.2.2.1 rg rpd rpn res.2.2.2.2.2.2.1 res.2.2.2.2.2.2.2.1 sg spd spn mc mm nc nm pd pn res.2.2.2.2.2.2.2.2.1 res.2.2.2.2.2.2.2.2.2.1 res.2.2.2.2.2.2.2.2.2.2 tl tb eo et ed em ef ez ek es en fi) := by
  refine MG_of (o := 6) (lv := [(0, .ref 0), (1, .int x1), (2, .int x2)]) ⟨by decide +kernel, rfl⟩ (Nat.le_of_ble_eq_true rfl) rfl (fun k C hR => ?_)
  rw [f_X6_moment] at h
  refine G_r C [(.aload_n 0, 1, 0, 0, .null), (.getfield 12, 3, 6, 0, .null), (.iload_n 1, 1, 0, 0, .null)] 5 [(0, .ref 0), (1, .int x1), (2, .int x2)] [.int x1, .ref 1] (wSR cy kb kn kf rK rf rg rpd rpn sK sf sg spd spn mc mm nc nm pd pn vo vd vs tl tb eo et ed em ef ez ek es en fi) (by decide +kernel) rfl rfl ?_
  obtain ⟨q1, hq1, h⟩ := obd h
  refine G_cV C lk_6_61 ⟨Nat.le_of_ble_eq_true rfl, Nat.le_of_ble_eq_true rfl⟩ (by decide +kernel) [1, 2, 3, 4, 5] [.int q1] (wSR cy kb kn kf rK rf rg rpd rpn sK sf sg spd spn mc mm nc nm pd pn vo vd vs tl tb eo et ed em ef ez ek es en fi) (c_X3_at cy rK rf rg rpd rpn x1 q1 hq1) rfl rfl (Nat.le_of_ble_eq_true rfl) rfl rfl ⟨rfl, rfl⟩ rfl rfl rfl ?_
  refine G_r C [(.istore_n 3, 1, 0, 0, .null), (.aload_n 0, 1, 0, 0, .null), (.getfield 16, 3, 6, 1, .null), (.aload_n 0, 1, 0, 0, .null), (.getfield 12, 3, 6, 0, .null)] 17 [(3, .int q1), (0, .ref 0), (1, .int x1), (2, .int x2)] [.ref 1, .ref 6] (wSR cy kb kn kf rK rf rg rpd rpn sK sf sg spd spn mc mm nc nm pd pn vo vd vs tl tb eo et ed em ef ez ek es en fi) (by decide +kernel) rfl rfl ?_
  obtain ⟨q2, hq2, h⟩ := obd h
  refine G_cV C lk_6_65 ⟨Nat.le_of_ble_eq_true rfl, Nat.le_of_ble_eq_true rfl⟩ (by decide +kernel) [6, 7, 8, 9, 10, 1, 2, 3, 4, 5] [] (wSR cy kb kn kf rK rf rg rpd rpn q2.1 q2.2 sg spd spn mc mm nc nm pd pn vo vd vs tl tb eo et ed em ef ez ek es en fi) (c_X3_copy cy sK sf sg spd spn rK rf rg rpd rpn q2 hq2) rfl rfl (Nat.le_of_ble_eq_true rfl) rfl rfl ⟨rfl, rfl⟩ rfl rfl rfl ?_
  refine G_r C [(.aload_n 0, 1, 0, 0, .null), (.getfield 16, 3, 6, 1, .null), (.iload_n 1, 1, 0, 0, .null), (.iload_n 2, 1, 0, 0, .null)] 26 [(3, .int q1), (0, .ref 0), (1, .int x1), (2, .int x2)] [.int x2, .int x1, .ref 6] (wSR cy kb kn kf rK rf rg rpd rpn q2.1 q2.2 sg spd spn mc mm nc nm pd pn vo vd vs tl tb eo et ed em ef ez ek es en fi) (by decide +kernel) rfl rfl ?_
  obtain ⟨q3, hq3, h⟩ := obd h
  refine G_cV C lk_6_69 ⟨Nat.le_of_ble_eq_true rfl, Nat.le_of_ble_eq_true rfl⟩ (by decide +kernel) [6, 7, 8, 9, 10] [.int q3.1] (wSR cy kb kn kf rK rf rg rpd rpn q2.1 q3.2 sg spd spn mc mm nc nm pd pn vo vd vs tl tb eo et ed em ef ez ek es en fi) (c_X3_put cy q2.1 q2.2 sg spd spn x1 x2 q3 hq3) rfl rfl (Nat.le_of_ble_eq_true rfl) rfl rfl ⟨rfl, rfl⟩ rfl rfl rfl ?_
  refine G_r C [(.istore 4, 2, 0, 0, .null), (.iload 4, 2, 0, 0, .null)] 33 [(4, .int q3.1), (3, .int q1), (0, .ref 0), (1, .int x1), (2, .int x2)] [.int q3.1] (wSR cy kb kn kf rK rf rg rpd rpn q2.1 q3.2 sg spd spn mc mm nc nm pd pn vo vd vs tl tb eo et ed em ef ez ek es en fi) (by decide +kernel) rfl rfl ?_
  refine G_if_eq C (off := 10) (tgt := 43) (by decide +kernel) rfl (fun c => ?_) (fun c => ?_)
  · rw [if_pos c] at h
    refine G_r C [(.aload_n 0, 1, 0, 0, .null)] 44 [(4, .int q3.1), (3, .int q1), (0, .ref 0), (1, .int x1), (2, .int x2)] [.ref 0] (wSR cy kb kn kf rK rf rg rpd rpn q2.1 q3.2 sg spd spn mc mm nc nm pd pn vo vd vs tl tb eo et ed em ef ez ek es en fi) (by decide +kernel) rfl rfl ?_
    obtain ⟨q4, hq4, h⟩ := obd h
    refine G_c0 C lk_6_76 ⟨Nat.le_of_ble_eq_true rfl, Nat.le_of_ble_eq_true rfl⟩ (by decide +kernel) [] (c_X6_keepTrial cy kb kn kf rK rf rg rpd rpn q2.1 q3.2 sg spd spn mc mm nc nm pd pn vo vd vs tl tb eo et ed em ef ez ek es en fi q4 hq4) rfl rfl (Nat.le_of_ble_eq_true rfl) ⟨rfl, rfl⟩ rfl ?_
    refine G_r C [(.iload_n 3, 1, 0, 0, .null)] 48 [(4, .int q3.1), (3, .int q1), (0, .ref 0), (1, .int x1), (2, .int x2)] [.int q1] (wSR cy kb kn kf q4.1 q4.2.1 rg rpd rpn q2.1 q3.2 sg spd spn mc mm nc nm pd pn q4.2.2.1 q4.2.2.2.1 q4.2.2.2.2 tl tb eo et ed em ef ez ek es en fi) (by decide +kernel) rfl rfl ?_
    have h := Option.some.inj h
    subst h
    exact G_iret C hR (by decide +kernel)
  · rw [if_neg c] at h
    refine G_r C [(.aload_n 0, 1, 0, 0, .null), (.iload 4, 2, 0, 0, .null)] 39 [(4, .int q3.1), (3, .int q1), (0, .ref 0), (1, .int x1), (2, .int x2)] [.int q3.1, .ref 0] (wSR cy kb kn kf rK rf rg rpd rpn q2.1 q3.2 sg spd spn mc mm nc nm pd pn vo vd vs tl tb eo et ed em ef ez ek es en fi) (by decide +kernel) rfl rfl ?_
    obtain ⟨q5, hq5, h⟩ := obd h
    refine G_c0 C lk_6_73 ⟨Nat.le_of_ble_eq_true rfl, Nat.le_of_ble_eq_true rfl⟩ (by decide +kernel) [.int q5.1] (c_X6_refuse cy kb kn kf rK rf rg rpd rpn q2.1 q3.2 sg spd spn mc mm nc nm pd pn vo vd vs tl tb eo et ed em ef ez ek es en fi q3.1 q5 hq5) rfl rfl (Nat.le_of_ble_eq_true rfl) ⟨rfl, rfl⟩ rfl ?_
    have h := Option.some.inj h
    subst h
    exact G_iret C hR (by decide +kernel)
end
