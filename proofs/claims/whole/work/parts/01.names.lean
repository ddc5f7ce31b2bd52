/-! names, by the task's own print: classes, fields, methods (no decode rows) -/
-- ===== PART A: goes FIRST, ahead of the names: the tables' words, and 'selects' of the private methods out of them =====
/-- a private method of a class that the tables say can be made, by its rows of tables_1 -/
def lw_okq (q : MethodName × Nat) : Prop := (q.1.cls ≠ "java/lang/invoke/MethodHandle" ∧ q.1.cls ≠ "java/lang/invoke/VarHandle") ∧ Cond.instantiable q.1.cls q.2 ∈ tables_1 ∧ Cond.privateMethod q.1 ∈ tables_1 ∧ Cond.instanceMethod q.1 ∈ tables_1
theorem lw_p0 : lw_okq (⟨"BackSeat$Reader", "advance", "()V"⟩, 7) := ⟨⟨by decide +kernel, by decide +kernel⟩, List.mem_of_getElem? (i := 47) (by decide +kernel), List.mem_of_getElem? (i := 271) (by decide +kernel), List.mem_of_getElem? (i := 272) (by decide +kernel)⟩
theorem lw_p1 : lw_okq (⟨"BackSeat$Reader", "byteAt", "(I)I"⟩, 7) := ⟨⟨by decide +kernel, by decide +kernel⟩, List.mem_of_getElem? (i := 47) (by decide +kernel), List.mem_of_getElem? (i := 275) (by decide +kernel), List.mem_of_getElem? (i := 276) (by decide +kernel)⟩
theorem lw_p2 : lw_okq (⟨"BackSeat$Reader", "advanceWord", "()V"⟩, 7) := ⟨⟨by decide +kernel, by decide +kernel⟩, List.mem_of_getElem? (i := 47) (by decide +kernel), List.mem_of_getElem? (i := 285) (by decide +kernel), List.mem_of_getElem? (i := 286) (by decide +kernel)⟩
theorem lw_p3 : lw_okq (⟨"BackSeat$Reader", "isWord", "(Ljava/lang/String;)Z"⟩, 7) := ⟨⟨by decide +kernel, by decide +kernel⟩, List.mem_of_getElem? (i := 47) (by decide +kernel), List.mem_of_getElem? (i := 304) (by decide +kernel), List.mem_of_getElem? (i := 305) (by decide +kernel)⟩
theorem lw_p4 : lw_okq (⟨"BackSeat$Reader", "fail", "()V"⟩, 7) := ⟨⟨by decide +kernel, by decide +kernel⟩, List.mem_of_getElem? (i := 47) (by decide +kernel), List.mem_of_getElem? (i := 310) (by decide +kernel), List.mem_of_getElem? (i := 311) (by decide +kernel)⟩
theorem lw_p5 : lw_okq (⟨"BackSeat$Reader", "advanceNumber", "()V"⟩, 7) := ⟨⟨by decide +kernel, by decide +kernel⟩, List.mem_of_getElem? (i := 47) (by decide +kernel), List.mem_of_getElem? (i := 317) (by decide +kernel), List.mem_of_getElem? (i := 318) (by decide +kernel)⟩
theorem lw_p6 : lw_okq (⟨"BackSeat$Reader", "advanceSign", "(I)V"⟩, 7) := ⟨⟨by decide +kernel, by decide +kernel⟩, List.mem_of_getElem? (i := 47) (by decide +kernel), List.mem_of_getElem? (i := 321) (by decide +kernel), List.mem_of_getElem? (i := 322) (by decide +kernel)⟩
theorem lw_p7 : lw_okq (⟨"BackSeat$Reader", "expect", "(I)V"⟩, 7) := ⟨⟨by decide +kernel, by decide +kernel⟩, List.mem_of_getElem? (i := 47) (by decide +kernel), List.mem_of_getElem? (i := 325) (by decide +kernel), List.mem_of_getElem? (i := 326) (by decide +kernel)⟩
theorem lw_p8 : lw_okq (⟨"BackSeat$Reader", "readOr", "(I)V"⟩, 7) := ⟨⟨by decide +kernel, by decide +kernel⟩, List.mem_of_getElem? (i := 47) (by decide +kernel), List.mem_of_getElem? (i := 329) (by decide +kernel), List.mem_of_getElem? (i := 330) (by decide +kernel)⟩
theorem lw_p9 : lw_okq (⟨"BackSeat$Reader", "readAnd", "(I)V"⟩, 7) := ⟨⟨by decide +kernel, by decide +kernel⟩, List.mem_of_getElem? (i := 47) (by decide +kernel), List.mem_of_getElem? (i := 333) (by decide +kernel), List.mem_of_getElem? (i := 334) (by decide +kernel)⟩
theorem lw_p10 : lw_okq (⟨"BackSeat$Reader", "readNot", "(I)V"⟩, 7) := ⟨⟨by decide +kernel, by decide +kernel⟩, List.mem_of_getElem? (i := 47) (by decide +kernel), List.mem_of_getElem? (i := 337) (by decide +kernel), List.mem_of_getElem? (i := 338) (by decide +kernel)⟩
theorem lw_p11 : lw_okq (⟨"BackSeat$Reader", "opens", "(I)Z"⟩, 7) := ⟨⟨by decide +kernel, by decide +kernel⟩, List.mem_of_getElem? (i := 47) (by decide +kernel), List.mem_of_getElem? (i := 341) (by decide +kernel), List.mem_of_getElem? (i := 342) (by decide +kernel)⟩
theorem lw_p12 : lw_okq (⟨"BackSeat$Reader", "readSum", "(I)V"⟩, 7) := ⟨⟨by decide +kernel, by decide +kernel⟩, List.mem_of_getElem? (i := 47) (by decide +kernel), List.mem_of_getElem? (i := 350) (by decide +kernel), List.mem_of_getElem? (i := 351) (by decide +kernel)⟩
theorem lw_p13 : lw_okq (⟨"BackSeat$Reader", "readTerm", "(I)V"⟩, 7) := ⟨⟨by decide +kernel, by decide +kernel⟩, List.mem_of_getElem? (i := 47) (by decide +kernel), List.mem_of_getElem? (i := 354) (by decide +kernel), List.mem_of_getElem? (i := 355) (by decide +kernel)⟩
theorem lw_p14 : lw_okq (⟨"BackSeat$Reader", "readOne", "(I)V"⟩, 7) := ⟨⟨by decide +kernel, by decide +kernel⟩, List.mem_of_getElem? (i := 47) (by decide +kernel), List.mem_of_getElem? (i := 358) (by decide +kernel), List.mem_of_getElem? (i := 359) (by decide +kernel)⟩
theorem lw_p15 : lw_okq (⟨"BackSeat", "setForAll", "(II)I"⟩, 9) := ⟨⟨by decide +kernel, by decide +kernel⟩, List.mem_of_getElem? (i := 15) (by decide +kernel), List.mem_of_getElem? (i := 403) (by decide +kernel), List.mem_of_getElem? (i := 404) (by decide +kernel)⟩
def lw_privs_1 : List (MethodName × Nat) := [(⟨"BackSeat$Reader", "advance", "()V"⟩, 7), (⟨"BackSeat$Reader", "byteAt", "(I)I"⟩, 7), (⟨"BackSeat$Reader", "advanceWord", "()V"⟩, 7), (⟨"BackSeat$Reader", "isWord", "(Ljava/lang/String;)Z"⟩, 7), (⟨"BackSeat$Reader", "fail", "()V"⟩, 7), (⟨"BackSeat$Reader", "advanceNumber", "()V"⟩, 7), (⟨"BackSeat$Reader", "advanceSign", "(I)V"⟩, 7), (⟨"BackSeat$Reader", "expect", "(I)V"⟩, 7), (⟨"BackSeat$Reader", "readOr", "(I)V"⟩, 7), (⟨"BackSeat$Reader", "readAnd", "(I)V"⟩, 7), (⟨"BackSeat$Reader", "readNot", "(I)V"⟩, 7), (⟨"BackSeat$Reader", "opens", "(I)Z"⟩, 7), (⟨"BackSeat$Reader", "readSum", "(I)V"⟩, 7), (⟨"BackSeat$Reader", "readTerm", "(I)V"⟩, 7), (⟨"BackSeat$Reader", "readOne", "(I)V"⟩, 7), (⟨"BackSeat", "setForAll", "(II)I"⟩, 9)]
theorem lw_r1 : ∀ q ∈ lw_privs_1, lw_okq q := List.forall_mem_cons.mpr ⟨lw_p0, List.forall_mem_cons.mpr ⟨lw_p1, List.forall_mem_cons.mpr ⟨lw_p2, List.forall_mem_cons.mpr ⟨lw_p3, List.forall_mem_cons.mpr ⟨lw_p4, List.forall_mem_cons.mpr ⟨lw_p5, List.forall_mem_cons.mpr ⟨lw_p6, List.forall_mem_cons.mpr ⟨lw_p7, List.forall_mem_cons.mpr ⟨lw_p8, List.forall_mem_cons.mpr ⟨lw_p9, List.forall_mem_cons.mpr ⟨lw_p10, List.forall_mem_cons.mpr ⟨lw_p11, List.forall_mem_cons.mpr ⟨lw_p12, List.forall_mem_cons.mpr ⟨lw_p13, List.forall_mem_cons.mpr ⟨lw_p14, List.forall_mem_cons.mpr ⟨lw_p15, fun _ h => absurd h List.not_mem_nil⟩⟩⟩⟩⟩⟩⟩⟩⟩⟩⟩⟩⟩⟩⟩⟩
theorem lw_p16 : lw_okq (⟨"BackSeat$Ride", "sickIn", "(I)I"⟩, 7) := ⟨⟨by decide +kernel, by decide +kernel⟩, List.mem_of_getElem? (i := 129) (by decide +kernel), List.mem_of_getElem? (i := 582) (by decide +kernel), List.mem_of_getElem? (i := 583) (by decide +kernel)⟩
theorem lw_p17 : lw_okq (⟨"BackSeat$Ride", "noteSick", "(II)V"⟩, 7) := ⟨⟨by decide +kernel, by decide +kernel⟩, List.mem_of_getElem? (i := 129) (by decide +kernel), List.mem_of_getElem? (i := 587) (by decide +kernel), List.mem_of_getElem? (i := 588) (by decide +kernel)⟩
theorem lw_p18 : lw_okq (⟨"BackSeat", "dinMoved", "(II)I"⟩, 9) := ⟨⟨by decide +kernel, by decide +kernel⟩, List.mem_of_getElem? (i := 15) (by decide +kernel), List.mem_of_getElem? (i := 606) (by decide +kernel), List.mem_of_getElem? (i := 607) (by decide +kernel)⟩
theorem lw_p19 : lw_okq (⟨"BackSeat", "dinChanged", "(II)I"⟩, 9) := ⟨⟨by decide +kernel, by decide +kernel⟩, List.mem_of_getElem? (i := 15) (by decide +kernel), List.mem_of_getElem? (i := 625) (by decide +kernel), List.mem_of_getElem? (i := 626) (by decide +kernel)⟩
theorem lw_p20 : lw_okq (⟨"BackSeat", "sheetAt", "(I)LBackSeat$Sheet;"⟩, 9) := ⟨⟨by decide +kernel, by decide +kernel⟩, List.mem_of_getElem? (i := 15) (by decide +kernel), List.mem_of_getElem? (i := 648) (by decide +kernel), List.mem_of_getElem? (i := 649) (by decide +kernel)⟩
theorem lw_p21 : lw_okq (⟨"BackSeat$Hat", "isUnlike", "([I)Z"⟩, 6) := ⟨⟨by decide +kernel, by decide +kernel⟩, List.mem_of_getElem? (i := 159) (by decide +kernel), List.mem_of_getElem? (i := 666) (by decide +kernel), List.mem_of_getElem? (i := 667) (by decide +kernel)⟩
theorem lw_p22 : lw_okq (⟨"BackSeat$Hat", "isAllThere", "(LBackSeat$Coach;)Z"⟩, 6) := ⟨⟨by decide +kernel, by decide +kernel⟩, List.mem_of_getElem? (i := 159) (by decide +kernel), List.mem_of_getElem? (i := 671) (by decide +kernel), List.mem_of_getElem? (i := 672) (by decide +kernel)⟩
theorem lw_p23 : lw_okq (⟨"BackSeat$Hat", "isTold", "(I)Z"⟩, 6) := ⟨⟨by decide +kernel, by decide +kernel⟩, List.mem_of_getElem? (i := 159) (by decide +kernel), List.mem_of_getElem? (i := 677) (by decide +kernel), List.mem_of_getElem? (i := 678) (by decide +kernel)⟩
theorem lw_p24 : lw_okq (⟨"BackSeat$Hat", "seatAll", "(LBackSeat$Coach;)V"⟩, 6) := ⟨⟨by decide +kernel, by decide +kernel⟩, List.mem_of_getElem? (i := 159) (by decide +kernel), List.mem_of_getElem? (i := 685) (by decide +kernel), List.mem_of_getElem? (i := 686) (by decide +kernel)⟩
theorem lw_p25 : lw_okq (⟨"BackSeat$Hat", "digits", "()I"⟩, 6) := ⟨⟨by decide +kernel, by decide +kernel⟩, List.mem_of_getElem? (i := 159) (by decide +kernel), List.mem_of_getElem? (i := 691) (by decide +kernel), List.mem_of_getElem? (i := 692) (by decide +kernel)⟩
theorem lw_p26 : lw_okq (⟨"BackSeat$Hat", "nextOrder", "()Z"⟩, 6) := ⟨⟨by decide +kernel, by decide +kernel⟩, List.mem_of_getElem? (i := 159) (by decide +kernel), List.mem_of_getElem? (i := 695) (by decide +kernel), List.mem_of_getElem? (i := 696) (by decide +kernel)⟩
theorem lw_p27 : lw_okq (⟨"BackSeat$Hat", "swapPlaces", "(II)V"⟩, 6) := ⟨⟨by decide +kernel, by decide +kernel⟩, List.mem_of_getElem? (i := 159) (by decide +kernel), List.mem_of_getElem? (i := 699) (by decide +kernel), List.mem_of_getElem? (i := 700) (by decide +kernel)⟩
theorem lw_p28 : lw_okq (⟨"BackSeat", "sickMoved", "(III)I"⟩, 9) := ⟨⟨by decide +kernel, by decide +kernel⟩, List.mem_of_getElem? (i := 15) (by decide +kernel), List.mem_of_getElem? (i := 715) (by decide +kernel), List.mem_of_getElem? (i := 716) (by decide +kernel)⟩
theorem lw_p29 : lw_okq (⟨"BackSeat", "itemsTold", "(LBackSeat$Sheet;[III)I"⟩, 9) := ⟨⟨by decide +kernel, by decide +kernel⟩, List.mem_of_getElem? (i := 15) (by decide +kernel), List.mem_of_getElem? (i := 728) (by decide +kernel), List.mem_of_getElem? (i := 729) (by decide +kernel)⟩
theorem lw_p30 : lw_okq (⟨"BackSeat", "seatsTold", "(LBackSeat$Sheet;I)I"⟩, 9) := ⟨⟨by decide +kernel, by decide +kernel⟩, List.mem_of_getElem? (i := 15) (by decide +kernel), List.mem_of_getElem? (i := 737) (by decide +kernel), List.mem_of_getElem? (i := 738) (by decide +kernel)⟩
theorem lw_p31 : lw_okq (⟨"BackSeat", "textsTold", "(LBackSeat$Sheet;)I"⟩, 9) := ⟨⟨by decide +kernel, by decide +kernel⟩, List.mem_of_getElem? (i := 15) (by decide +kernel), List.mem_of_getElem? (i := 741) (by decide +kernel), List.mem_of_getElem? (i := 742) (by decide +kernel)⟩
def lw_privs_2 : List (MethodName × Nat) := [(⟨"BackSeat$Ride", "sickIn", "(I)I"⟩, 7), (⟨"BackSeat$Ride", "noteSick", "(II)V"⟩, 7), (⟨"BackSeat", "dinMoved", "(II)I"⟩, 9), (⟨"BackSeat", "dinChanged", "(II)I"⟩, 9), (⟨"BackSeat", "sheetAt", "(I)LBackSeat$Sheet;"⟩, 9), (⟨"BackSeat$Hat", "isUnlike", "([I)Z"⟩, 6), (⟨"BackSeat$Hat", "isAllThere", "(LBackSeat$Coach;)Z"⟩, 6), (⟨"BackSeat$Hat", "isTold", "(I)Z"⟩, 6), (⟨"BackSeat$Hat", "seatAll", "(LBackSeat$Coach;)V"⟩, 6), (⟨"BackSeat$Hat", "digits", "()I"⟩, 6), (⟨"BackSeat$Hat", "nextOrder", "()Z"⟩, 6), (⟨"BackSeat$Hat", "swapPlaces", "(II)V"⟩, 6), (⟨"BackSeat", "sickMoved", "(III)I"⟩, 9), (⟨"BackSeat", "itemsTold", "(LBackSeat$Sheet;[III)I"⟩, 9), (⟨"BackSeat", "seatsTold", "(LBackSeat$Sheet;I)I"⟩, 9), (⟨"BackSeat", "textsTold", "(LBackSeat$Sheet;)I"⟩, 9)]
theorem lw_r2 : ∀ q ∈ lw_privs_2, lw_okq q := List.forall_mem_cons.mpr ⟨lw_p16, List.forall_mem_cons.mpr ⟨lw_p17, List.forall_mem_cons.mpr ⟨lw_p18, List.forall_mem_cons.mpr ⟨lw_p19, List.forall_mem_cons.mpr ⟨lw_p20, List.forall_mem_cons.mpr ⟨lw_p21, List.forall_mem_cons.mpr ⟨lw_p22, List.forall_mem_cons.mpr ⟨lw_p23, List.forall_mem_cons.mpr ⟨lw_p24, List.forall_mem_cons.mpr ⟨lw_p25, List.forall_mem_cons.mpr ⟨lw_p26, List.forall_mem_cons.mpr ⟨lw_p27, List.forall_mem_cons.mpr ⟨lw_p28, List.forall_mem_cons.mpr ⟨lw_p29, List.forall_mem_cons.mpr ⟨lw_p30, List.forall_mem_cons.mpr ⟨lw_p31, fun _ h => absurd h List.not_mem_nil⟩⟩⟩⟩⟩⟩⟩⟩⟩⟩⟩⟩⟩⟩⟩⟩
theorem lw_p32 : lw_okq (⟨"BackSeat", "milesTold", "(LBackSeat$Sheet;)I"⟩, 9) := ⟨⟨by decide +kernel, by decide +kernel⟩, List.mem_of_getElem? (i := 15) (by decide +kernel), List.mem_of_getElem? (i := 745) (by decide +kernel), List.mem_of_getElem? (i := 746) (by decide +kernel)⟩
theorem lw_p33 : lw_okq (⟨"BackSeat", "leastMileTold", "(LBackSeat$Sheet;)I"⟩, 9) := ⟨⟨by decide +kernel, by decide +kernel⟩, List.mem_of_getElem? (i := 15) (by decide +kernel), List.mem_of_getElem? (i := 749) (by decide +kernel), List.mem_of_getElem? (i := 750) (by decide +kernel)⟩
theorem lw_p34 : lw_okq (⟨"BackSeatModel", "spell", "(IIIIIIIII)V"⟩, 52) := ⟨⟨by decide +kernel, by decide +kernel⟩, List.mem_of_getElem? (i := 834) (by decide +kernel), List.mem_of_getElem? (i := 840) (by decide +kernel), List.mem_of_getElem? (i := 841) (by decide +kernel)⟩
theorem lw_p35 : lw_okq (⟨"BackSeatModel", "isOne", "(I)Z"⟩, 52) := ⟨⟨by decide +kernel, by decide +kernel⟩, List.mem_of_getElem? (i := 834) (by decide +kernel), List.mem_of_getElem? (i := 1009) (by decide +kernel), List.mem_of_getElem? (i := 1010) (by decide +kernel)⟩
theorem lw_p36 : lw_okq (⟨"BackSeatModel", "isValue", "(III)Z"⟩, 52) := ⟨⟨by decide +kernel, by decide +kernel⟩, List.mem_of_getElem? (i := 834) (by decide +kernel), List.mem_of_getElem? (i := 1013) (by decide +kernel), List.mem_of_getElem? (i := 1014) (by decide +kernel)⟩
theorem lw_p37 : lw_okq (⟨"BackSeatModel", "noiseOf", "(I)I"⟩, 52) := ⟨⟨by decide +kernel, by decide +kernel⟩, List.mem_of_getElem? (i := 834) (by decide +kernel), List.mem_of_getElem? (i := 1024) (by decide +kernel), List.mem_of_getElem? (i := 1025) (by decide +kernel)⟩
theorem lw_p38 : lw_okq (⟨"BackSeatModel", "isWatched", "(I)Z"⟩, 52) := ⟨⟨by decide +kernel, by decide +kernel⟩, List.mem_of_getElem? (i := 834) (by decide +kernel), List.mem_of_getElem? (i := 1028) (by decide +kernel), List.mem_of_getElem? (i := 1029) (by decide +kernel)⟩
theorem lw_p39 : lw_okq (⟨"BackSeatModel", "neighbour", "(II)I"⟩, 52) := ⟨⟨by decide +kernel, by decide +kernel⟩, List.mem_of_getElem? (i := 834) (by decide +kernel), List.mem_of_getElem? (i := 1032) (by decide +kernel), List.mem_of_getElem? (i := 1033) (by decide +kernel)⟩
theorem lw_p40 : lw_okq (⟨"BackSeatModel", "isTeacher", "(I)Z"⟩, 52) := ⟨⟨by decide +kernel, by decide +kernel⟩, List.mem_of_getElem? (i := 834) (by decide +kernel), List.mem_of_getElem? (i := 1036) (by decide +kernel), List.mem_of_getElem? (i := 1037) (by decide +kernel)⟩
theorem lw_p41 : lw_okq (⟨"BackSeatModel", "asks", "(III)I"⟩, 52) := ⟨⟨by decide +kernel, by decide +kernel⟩, List.mem_of_getElem? (i := 834) (by decide +kernel), List.mem_of_getElem? (i := 1040) (by decide +kernel), List.mem_of_getElem? (i := 1041) (by decide +kernel)⟩
theorem lw_p42 : lw_okq (⟨"BackSeatModel", "besideOf", "(I)I"⟩, 52) := ⟨⟨by decide +kernel, by decide +kernel⟩, List.mem_of_getElem? (i := 834) (by decide +kernel), List.mem_of_getElem? (i := 1044) (by decide +kernel), List.mem_of_getElem? (i := 1045) (by decide +kernel)⟩
theorem lw_p43 : lw_okq (⟨"BackSeatModel", "hasFriend", "(I)Z"⟩, 52) := ⟨⟨by decide +kernel, by decide +kernel⟩, List.mem_of_getElem? (i := 834) (by decide +kernel), List.mem_of_getElem? (i := 1048) (by decide +kernel), List.mem_of_getElem? (i := 1049) (by decide +kernel)⟩
theorem lw_p44 : lw_okq (⟨"BackSeatModel", "read", "(II)I"⟩, 52) := ⟨⟨by decide +kernel, by decide +kernel⟩, List.mem_of_getElem? (i := 834) (by decide +kernel), List.mem_of_getElem? (i := 1052) (by decide +kernel), List.mem_of_getElem? (i := 1053) (by decide +kernel)⟩
theorem lw_p45 : lw_okq (⟨"BackSeatModel", "next", "()V"⟩, 52) := ⟨⟨by decide +kernel, by decide +kernel⟩, List.mem_of_getElem? (i := 834) (by decide +kernel), List.mem_of_getElem? (i := 1056) (by decide +kernel), List.mem_of_getElem? (i := 1057) (by decide +kernel)⟩
theorem lw_p46 : lw_okq (⟨"BackSeatModel", "byteAt", "(I)I"⟩, 52) := ⟨⟨by decide +kernel, by decide +kernel⟩, List.mem_of_getElem? (i := 834) (by decide +kernel), List.mem_of_getElem? (i := 1060) (by decide +kernel), List.mem_of_getElem? (i := 1061) (by decide +kernel)⟩
theorem lw_p47 : lw_okq (⟨"BackSeatModel", "isWord", "(IIIIIIII)Z"⟩, 52) := ⟨⟨by decide +kernel, by decide +kernel⟩, List.mem_of_getElem? (i := 834) (by decide +kernel), List.mem_of_getElem? (i := 1069) (by decide +kernel), List.mem_of_getElem? (i := 1070) (by decide +kernel)⟩
def lw_privs_3 : List (MethodName × Nat) := [(⟨"BackSeat", "milesTold", "(LBackSeat$Sheet;)I"⟩, 9), (⟨"BackSeat", "leastMileTold", "(LBackSeat$Sheet;)I"⟩, 9), (⟨"BackSeatModel", "spell", "(IIIIIIIII)V"⟩, 52), (⟨"BackSeatModel", "isOne", "(I)Z"⟩, 52), (⟨"BackSeatModel", "isValue", "(III)Z"⟩, 52), (⟨"BackSeatModel", "noiseOf", "(I)I"⟩, 52), (⟨"BackSeatModel", "isWatched", "(I)Z"⟩, 52), (⟨"BackSeatModel", "neighbour", "(II)I"⟩, 52), (⟨"BackSeatModel", "isTeacher", "(I)Z"⟩, 52), (⟨"BackSeatModel", "asks", "(III)I"⟩, 52), (⟨"BackSeatModel", "besideOf", "(I)I"⟩, 52), (⟨"BackSeatModel", "hasFriend", "(I)Z"⟩, 52), (⟨"BackSeatModel", "read", "(II)I"⟩, 52), (⟨"BackSeatModel", "next", "()V"⟩, 52), (⟨"BackSeatModel", "byteAt", "(I)I"⟩, 52), (⟨"BackSeatModel", "isWord", "(IIIIIIII)Z"⟩, 52)]
theorem lw_r3 : ∀ q ∈ lw_privs_3, lw_okq q := List.forall_mem_cons.mpr ⟨lw_p32, List.forall_mem_cons.mpr ⟨lw_p33, List.forall_mem_cons.mpr ⟨lw_p34, List.forall_mem_cons.mpr ⟨lw_p35, List.forall_mem_cons.mpr ⟨lw_p36, List.forall_mem_cons.mpr ⟨lw_p37, List.forall_mem_cons.mpr ⟨lw_p38, List.forall_mem_cons.mpr ⟨lw_p39, List.forall_mem_cons.mpr ⟨lw_p40, List.forall_mem_cons.mpr ⟨lw_p41, List.forall_mem_cons.mpr ⟨lw_p42, List.forall_mem_cons.mpr ⟨lw_p43, List.forall_mem_cons.mpr ⟨lw_p44, List.forall_mem_cons.mpr ⟨lw_p45, List.forall_mem_cons.mpr ⟨lw_p46, List.forall_mem_cons.mpr ⟨lw_p47, fun _ h => absurd h List.not_mem_nil⟩⟩⟩⟩⟩⟩⟩⟩⟩⟩⟩⟩⟩⟩⟩⟩
theorem lw_p48 : lw_okq (⟨"BackSeatModel", "isLetter", "(II)Z"⟩, 52) := ⟨⟨by decide +kernel, by decide +kernel⟩, List.mem_of_getElem? (i := 834) (by decide +kernel), List.mem_of_getElem? (i := 1073) (by decide +kernel), List.mem_of_getElem? (i := 1074) (by decide +kernel)⟩
theorem lw_p49 : lw_okq (⟨"BackSeatModel", "part", "(Z)I"⟩, 52) := ⟨⟨by decide +kernel, by decide +kernel⟩, List.mem_of_getElem? (i := 834) (by decide +kernel), List.mem_of_getElem? (i := 1077) (by decide +kernel), List.mem_of_getElem? (i := 1078) (by decide +kernel)⟩
theorem lw_p50 : lw_okq (⟨"BackSeatModel", "fail", "()V"⟩, 52) := ⟨⟨by decide +kernel, by decide +kernel⟩, List.mem_of_getElem? (i := 834) (by decide +kernel), List.mem_of_getElem? (i := 1081) (by decide +kernel), List.mem_of_getElem? (i := 1082) (by decide +kernel)⟩
theorem lw_p51 : lw_okq (⟨"BackSeatModel", "either", "()I"⟩, 52) := ⟨⟨by decide +kernel, by decide +kernel⟩, List.mem_of_getElem? (i := 834) (by decide +kernel), List.mem_of_getElem? (i := 1085) (by decide +kernel), List.mem_of_getElem? (i := 1086) (by decide +kernel)⟩
theorem lw_p52 : lw_okq (⟨"BackSeatModel", "both", "()I"⟩, 52) := ⟨⟨by decide +kernel, by decide +kernel⟩, List.mem_of_getElem? (i := 834) (by decide +kernel), List.mem_of_getElem? (i := 1089) (by decide +kernel), List.mem_of_getElem? (i := 1090) (by decide +kernel)⟩
theorem lw_p53 : lw_okq (⟨"BackSeatModel", "not", "()I"⟩, 52) := ⟨⟨by decide +kernel, by decide +kernel⟩, List.mem_of_getElem? (i := 834) (by decide +kernel), List.mem_of_getElem? (i := 1093) (by decide +kernel), List.mem_of_getElem? (i := 1094) (by decide +kernel)⟩
theorem lw_p54 : lw_okq (⟨"BackSeatModel", "opens", "()Z"⟩, 52) := ⟨⟨by decide +kernel, by decide +kernel⟩, List.mem_of_getElem? (i := 834) (by decide +kernel), List.mem_of_getElem? (i := 1097) (by decide +kernel), List.mem_of_getElem? (i := 1098) (by decide +kernel)⟩
theorem lw_p55 : lw_okq (⟨"BackSeatModel", "added", "()I"⟩, 52) := ⟨⟨by decide +kernel, by decide +kernel⟩, List.mem_of_getElem? (i := 834) (by decide +kernel), List.mem_of_getElem? (i := 1101) (by decide +kernel), List.mem_of_getElem? (i := 1102) (by decide +kernel)⟩
theorem lw_p56 : lw_okq (⟨"BackSeatModel", "term", "()I"⟩, 52) := ⟨⟨by decide +kernel, by decide +kernel⟩, List.mem_of_getElem? (i := 834) (by decide +kernel), List.mem_of_getElem? (i := 1105) (by decide +kernel), List.mem_of_getElem? (i := 1106) (by decide +kernel)⟩
theorem lw_p57 : lw_okq (⟨"BackSeatModel", "atom", "()I"⟩, 52) := ⟨⟨by decide +kernel, by decide +kernel⟩, List.mem_of_getElem? (i := 834) (by decide +kernel), List.mem_of_getElem? (i := 1109) (by decide +kernel), List.mem_of_getElem? (i := 1110) (by decide +kernel)⟩
theorem lw_p58 : lw_okq (⟨"BackSeatModel", "isSign", "(I)Z"⟩, 52) := ⟨⟨by decide +kernel, by decide +kernel⟩, List.mem_of_getElem? (i := 834) (by decide +kernel), List.mem_of_getElem? (i := 1113) (by decide +kernel), List.mem_of_getElem? (i := 1114) (by decide +kernel)⟩
theorem lw_p59 : lw_okq (⟨"BackSeatModel", "name", "()I"⟩, 52) := ⟨⟨by decide +kernel, by decide +kernel⟩, List.mem_of_getElem? (i := 834) (by decide +kernel), List.mem_of_getElem? (i := 1117) (by decide +kernel), List.mem_of_getElem? (i := 1118) (by decide +kernel)⟩
theorem lw_p60 : lw_okq (⟨"BackSeatModel", "queasyOf", "(II)I"⟩, 52) := ⟨⟨by decide +kernel, by decide +kernel⟩, List.mem_of_getElem? (i := 834) (by decide +kernel), List.mem_of_getElem? (i := 1126) (by decide +kernel), List.mem_of_getElem? (i := 1127) (by decide +kernel)⟩
theorem lw_p61 : lw_okq (⟨"BackSeatModel", "lays", "(III)V"⟩, 52) := ⟨⟨by decide +kernel, by decide +kernel⟩, List.mem_of_getElem? (i := 834) (by decide +kernel), List.mem_of_getElem? (i := 1130) (by decide +kernel), List.mem_of_getElem? (i := 1131) (by decide +kernel)⟩
theorem lw_p62 : lw_okq (⟨"BackSeatModel", "seats", "(II)V"⟩, 52) := ⟨⟨by decide +kernel, by decide +kernel⟩, List.mem_of_getElem? (i := 834) (by decide +kernel), List.mem_of_getElem? (i := 1147) (by decide +kernel), List.mem_of_getElem? (i := 1148) (by decide +kernel)⟩
theorem lw_p63 : lw_okq (⟨"BackSeatModel", "din", "()I"⟩, 52) := ⟨⟨by decide +kernel, by decide +kernel⟩, List.mem_of_getElem? (i := 834) (by decide +kernel), List.mem_of_getElem? (i := 1175) (by decide +kernel), List.mem_of_getElem? (i := 1176) (by decide +kernel)⟩
def lw_privs_4 : List (MethodName × Nat) := [(⟨"BackSeatModel", "isLetter", "(II)Z"⟩, 52), (⟨"BackSeatModel", "part", "(Z)I"⟩, 52), (⟨"BackSeatModel", "fail", "()V"⟩, 52), (⟨"BackSeatModel", "either", "()I"⟩, 52), (⟨"BackSeatModel", "both", "()I"⟩, 52), (⟨"BackSeatModel", "not", "()I"⟩, 52), (⟨"BackSeatModel", "opens", "()Z"⟩, 52), (⟨"BackSeatModel", "added", "()I"⟩, 52), (⟨"BackSeatModel", "term", "()I"⟩, 52), (⟨"BackSeatModel", "atom", "()I"⟩, 52), (⟨"BackSeatModel", "isSign", "(I)Z"⟩, 52), (⟨"BackSeatModel", "name", "()I"⟩, 52), (⟨"BackSeatModel", "queasyOf", "(II)I"⟩, 52), (⟨"BackSeatModel", "lays", "(III)V"⟩, 52), (⟨"BackSeatModel", "seats", "(II)V"⟩, 52), (⟨"BackSeatModel", "din", "()I"⟩, 52)]
theorem lw_r4 : ∀ q ∈ lw_privs_4, lw_okq q := List.forall_mem_cons.mpr ⟨lw_p48, List.forall_mem_cons.mpr ⟨lw_p49, List.forall_mem_cons.mpr ⟨lw_p50, List.forall_mem_cons.mpr ⟨lw_p51, List.forall_mem_cons.mpr ⟨lw_p52, List.forall_mem_cons.mpr ⟨lw_p53, List.forall_mem_cons.mpr ⟨lw_p54, List.forall_mem_cons.mpr ⟨lw_p55, List.forall_mem_cons.mpr ⟨lw_p56, List.forall_mem_cons.mpr ⟨lw_p57, List.forall_mem_cons.mpr ⟨lw_p58, List.forall_mem_cons.mpr ⟨lw_p59, List.forall_mem_cons.mpr ⟨lw_p60, List.forall_mem_cons.mpr ⟨lw_p61, List.forall_mem_cons.mpr ⟨lw_p62, List.forall_mem_cons.mpr ⟨lw_p63, fun _ h => absurd h List.not_mem_nil⟩⟩⟩⟩⟩⟩⟩⟩⟩⟩⟩⟩⟩⟩⟩⟩
theorem lw_p64 : lw_okq (⟨"BackSeatModel", "joy", "()I"⟩, 52) := ⟨⟨by decide +kernel, by decide +kernel⟩, List.mem_of_getElem? (i := 834) (by decide +kernel), List.mem_of_getElem? (i := 1179) (by decide +kernel), List.mem_of_getElem? (i := 1180) (by decide +kernel)⟩
theorem lw_p65 : lw_okq (⟨"BackSeatModel", "gladOf", "(I)I"⟩, 52) := ⟨⟨by decide +kernel, by decide +kernel⟩, List.mem_of_getElem? (i := 834) (by decide +kernel), List.mem_of_getElem? (i := 1183) (by decide +kernel), List.mem_of_getElem? (i := 1184) (by decide +kernel)⟩
theorem lw_p66 : lw_okq (⟨"BackSeatModel", "rides", "(II)V"⟩, 52) := ⟨⟨by decide +kernel, by decide +kernel⟩, List.mem_of_getElem? (i := 834) (by decide +kernel), List.mem_of_getElem? (i := 1192) (by decide +kernel), List.mem_of_getElem? (i := 1193) (by decide +kernel)⟩
theorem lw_p67 : lw_okq (⟨"BackSeatModel", "looksAt", "(II)V"⟩, 52) := ⟨⟨by decide +kernel, by decide +kernel⟩, List.mem_of_getElem? (i := 834) (by decide +kernel), List.mem_of_getElem? (i := 1204) (by decide +kernel), List.mem_of_getElem? (i := 1205) (by decide +kernel)⟩
theorem lw_p68 : lw_okq (⟨"BackSeatModel", "swaps", "(II)V"⟩, 52) := ⟨⟨by decide +kernel, by decide +kernel⟩, List.mem_of_getElem? (i := 834) (by decide +kernel), List.mem_of_getElem? (i := 1208) (by decide +kernel), List.mem_of_getElem? (i := 1209) (by decide +kernel)⟩
theorem lw_p69 : lw_okq (⟨"BackSeatModel", "firstTeacher", "()I"⟩, 52) := ⟨⟨by decide +kernel, by decide +kernel⟩, List.mem_of_getElem? (i := 834) (by decide +kernel), List.mem_of_getElem? (i := 1216) (by decide +kernel), List.mem_of_getElem? (i := 1217) (by decide +kernel)⟩
theorem lw_p70 : lw_okq (⟨"BackSeatModel", "isHat", "(I)Z"⟩, 52) := ⟨⟨by decide +kernel, by decide +kernel⟩, List.mem_of_getElem? (i := 834) (by decide +kernel), List.mem_of_getElem? (i := 1227) (by decide +kernel), List.mem_of_getElem? (i := 1228) (by decide +kernel)⟩
theorem lw_p71 : lw_okq (⟨"BackSeatModel", "stands", "()V"⟩, 52) := ⟨⟨by decide +kernel, by decide +kernel⟩, List.mem_of_getElem? (i := 834) (by decide +kernel), List.mem_of_getElem? (i := 1232) (by decide +kernel), List.mem_of_getElem? (i := 1233) (by decide +kernel)⟩
theorem lw_p72 : lw_okq (⟨"BackSeatModel", "seeks", "(IIII)V"⟩, 52) := ⟨⟨by decide +kernel, by decide +kernel⟩, List.mem_of_getElem? (i := 834) (by decide +kernel), List.mem_of_getElem? (i := 1236) (by decide +kernel), List.mem_of_getElem? (i := 1237) (by decide +kernel)⟩
theorem lw_p73 : lw_okq (⟨"BackSeatModel", "sitsAgain", "()V"⟩, 52) := ⟨⟨by decide +kernel, by decide +kernel⟩, List.mem_of_getElem? (i := 834) (by decide +kernel), List.mem_of_getElem? (i := 1240) (by decide +kernel), List.mem_of_getElem? (i := 1241) (by decide +kernel)⟩
theorem lw_p74 : lw_okq (⟨"BackSeatModel", "unlike", "(I)I"⟩, 52) := ⟨⟨by decide +kernel, by decide +kernel⟩, List.mem_of_getElem? (i := 834) (by decide +kernel), List.mem_of_getElem? (i := 1257) (by decide +kernel), List.mem_of_getElem? (i := 1258) (by decide +kernel)⟩
theorem lw_p75 : lw_okq (⟨"BackSeatModel", "seatsBy", "(II)I"⟩, 52) := ⟨⟨by decide +kernel, by decide +kernel⟩, List.mem_of_getElem? (i := 834) (by decide +kernel), List.mem_of_getElem? (i := 1261) (by decide +kernel), List.mem_of_getElem? (i := 1262) (by decide +kernel)⟩
theorem lw_p76 : lw_okq (⟨"BackSeatModel", "dinBy", "(I)I"⟩, 52) := ⟨⟨by decide +kernel, by decide +kernel⟩, List.mem_of_getElem? (i := 834) (by decide +kernel), List.mem_of_getElem? (i := 1278) (by decide +kernel), List.mem_of_getElem? (i := 1279) (by decide +kernel)⟩
def lw_privs_5 : List (MethodName × Nat) := [(⟨"BackSeatModel", "joy", "()I"⟩, 52), (⟨"BackSeatModel", "gladOf", "(I)I"⟩, 52), (⟨"BackSeatModel", "rides", "(II)V"⟩, 52), (⟨"BackSeatModel", "looksAt", "(II)V"⟩, 52), (⟨"BackSeatModel", "swaps", "(II)V"⟩, 52), (⟨"BackSeatModel", "firstTeacher", "()I"⟩, 52), (⟨"BackSeatModel", "isHat", "(I)Z"⟩, 52), (⟨"BackSeatModel", "stands", "()V"⟩, 52), (⟨"BackSeatModel", "seeks", "(IIII)V"⟩, 52), (⟨"BackSeatModel", "sitsAgain", "()V"⟩, 52), (⟨"BackSeatModel", "unlike", "(I)I"⟩, 52), (⟨"BackSeatModel", "seatsBy", "(II)I"⟩, 52), (⟨"BackSeatModel", "dinBy", "(I)I"⟩, 52)]
theorem lw_r5 : ∀ q ∈ lw_privs_5, lw_okq q := List.forall_mem_cons.mpr ⟨lw_p64, List.forall_mem_cons.mpr ⟨lw_p65, List.forall_mem_cons.mpr ⟨lw_p66, List.forall_mem_cons.mpr ⟨lw_p67, List.forall_mem_cons.mpr ⟨lw_p68, List.forall_mem_cons.mpr ⟨lw_p69, List.forall_mem_cons.mpr ⟨lw_p70, List.forall_mem_cons.mpr ⟨lw_p71, List.forall_mem_cons.mpr ⟨lw_p72, List.forall_mem_cons.mpr ⟨lw_p73, List.forall_mem_cons.mpr ⟨lw_p74, List.forall_mem_cons.mpr ⟨lw_p75, List.forall_mem_cons.mpr ⟨lw_p76, fun _ h => absurd h List.not_mem_nil⟩⟩⟩⟩⟩⟩⟩⟩⟩⟩⟩⟩⟩
def lw_privs : List (MethodName × Nat) := lw_privs_1 ++ (lw_privs_2 ++ (lw_privs_3 ++ (lw_privs_4 ++ (lw_privs_5))))
def lw_tbl : List Cond := k2_sels lw_privs ++ tables_1
theorem lw_privs_ok : ∀ q ∈ lw_privs, lw_okq q := by
  show ∀ q ∈ lw_privs_1 ++ (lw_privs_2 ++ (lw_privs_3 ++ (lw_privs_4 ++ (lw_privs_5)))), lw_okq q
  exact List.forall_mem_append.mpr ⟨lw_r1, List.forall_mem_append.mpr ⟨lw_r2, List.forall_mem_append.mpr ⟨lw_r3, List.forall_mem_append.mpr ⟨lw_r4, lw_r5⟩⟩⟩⟩
-- ===== end of PART A; then your names; then what follows =====
/-! ===== BEGIN printed: names, fields, word lists, decode rows ===== -/
def RX0 : String := "BackSeat$Coach"
def TX0 : u_T := fun k => match k with
  | 0 => ("BackSeat$Coach", "texts", "LBackSeat$Texts;", true)
  | 1 => ("BackSeat$Coach", "mile", "I", false)
  | 2 => ("BackSeat$Coach", "limit", "I", false)
  | 3 => ("BackSeat$Coach", "rule", "I", false)
  | 4 => ("BackSeat$Coach", "size", "I", false)
  | 5 => ("BackSeat$Coach", "kinds", "[I", true)
  | 6 => ("BackSeat$Coach", "numbers", "[I", true)
  | 7 => ("BackSeat$Coach", "friends", "[I", true)
  | 8 => ("BackSeat$Coach", "seats", "[I", true)
  | 9 => ("BackSeat$Coach", "sitters", "[I", true)
  | _ => ("BackSeat$Coach", "facts", "[I", true)
def tyX0 : Nat → FieldType := fun k => match k with
  | 0 => .object "BackSeat$Texts"
  | 1 => .int
  | 2 => .int
  | 3 => .int
  | 4 => .int
  | 5 => .array .int
  | 6 => .array .int
  | 7 => .array .int
  | 8 => .array .int
  | 9 => .array .int
  | _ => .array .int
abbrev wsX00 : List Cond := u_ws RX0 TX0 11
theorem nmX0 : ∀ a, a < 11 → ∀ b, b < 11 → a ≠ b → (TX0 a).2.1 ≠ (TX0 b).2.1 := by decide +kernel
theorem tyX0_ok : ∀ k, k < 11 → parseFieldDescriptor (TX0 k).2.2.1 = some (tyX0 k) := by decide +kernel
abbrev cX0_init : ByteArray := prog_2_method_1_code
def yX0_init : MethodName := ⟨RX0, "<init>", "(LBackSeat$Texts;)V"⟩
abbrev cX0_take : ByteArray := prog_2_method_2_code
def yX0_take : MethodName := ⟨RX0, "take", "(LBackSeat$Coach;)V"⟩
abbrev cX0_has : ByteArray := prog_2_method_3_code
def yX0_has : MethodName := ⟨RX0, "has", "(I)Z"⟩
abbrev cX0_join : ByteArray := prog_2_method_4_code
def yX0_join : MethodName := ⟨RX0, "join", "(II)I"⟩
abbrev cX0_kindOf : ByteArray := prog_2_method_5_code
def yX0_kindOf : MethodName := ⟨RX0, "kindOf", "(I)I"⟩
abbrev cX0_numberOf : ByteArray := prog_2_method_6_code
def yX0_numberOf : MethodName := ⟨RX0, "numberOf", "(I)I"⟩
abbrev cX0_friendOf : ByteArray := prog_2_method_7_code
def yX0_friendOf : MethodName := ⟨RX0, "friendOf", "(I)I"⟩
abbrev cX0_seatOf : ByteArray := prog_2_method_8_code
def yX0_seatOf : MethodName := ⟨RX0, "seatOf", "(I)I"⟩
abbrev cX0_sits : ByteArray := prog_2_method_9_code
def yX0_sits : MethodName := ⟨RX0, "sits", "(I)Z"⟩
abbrev cX0_sitterAt : ByteArray := prog_2_method_10_code
def yX0_sitterAt : MethodName := ⟨RX0, "sitterAt", "(I)I"⟩
abbrev cX0_isOpen : ByteArray := prog_2_method_11_code
def yX0_isOpen : MethodName := ⟨RX0, "isOpen", "(II)Z"⟩
abbrev cX0_move : ByteArray := prog_2_method_12_code
def yX0_move : MethodName := ⟨RX0, "move", "(II)V"⟩
abbrev cX0_exchange : ByteArray := prog_2_method_13_code
def yX0_exchange : MethodName := ⟨RX0, "exchange", "(II)V"⟩
abbrev cX0_firstFreeFrom : ByteArray := prog_2_method_14_code
def yX0_firstFreeFrom : MethodName := ⟨RX0, "firstFreeFrom", "(I)I"⟩
abbrev cX0_firstFreeInFront : ByteArray := prog_2_method_15_code
def yX0_firstFreeInFront : MethodName := ⟨RX0, "firstFreeInFront", "()I"⟩
abbrev cX0_firstTeacher : ByteArray := prog_2_method_16_code
def yX0_firstTeacher : MethodName := ⟨RX0, "firstTeacher", "()I"⟩
abbrev cX0_areBeside : ByteArray := prog_2_method_17_code
def yX0_areBeside : MethodName := ⟨RX0, "areBeside", "(II)Z"⟩
abbrev cX0_neighbours : ByteArray := prog_2_method_18_code
def yX0_neighbours : MethodName := ⟨RX0, "neighbours", "(I)I"⟩
abbrev cX0_isWatched : ByteArray := prog_2_method_19_code
def yX0_isWatched : MethodName := ⟨RX0, "isWatched", "(I)Z"⟩
abbrev cX0_isTeacher : ByteArray := prog_2_method_20_code
def yX0_isTeacher : MethodName := ⟨RX0, "isTeacher", "(I)Z"⟩
abbrev cX0_telling : ByteArray := prog_2_method_21_code
def yX0_telling : MethodName := ⟨RX0, "telling", "(III)I"⟩
abbrev cX0_noise : ByteArray := prog_2_method_22_code
def yX0_noise : MethodName := ⟨RX0, "noise", "(I)I"⟩
abbrev cX0_queasy : ByteArray := prog_2_method_23_code
def yX0_queasy : MethodName := ⟨RX0, "queasy", "(II)I"⟩
abbrev cX0_glad : ByteArray := prog_2_method_24_code
def yX0_glad : MethodName := ⟨RX0, "glad", "(I)I"⟩
abbrev cX0_din : ByteArray := prog_2_method_25_code
def yX0_din : MethodName := ⟨RX0, "din", "()I"⟩
abbrev cX0_joy : ByteArray := prog_2_method_26_code
def yX0_joy : MethodName := ⟨RX0, "joy", "()I"⟩
abbrev cX0_sitting : ByteArray := prog_2_method_27_code
def yX0_sitting : MethodName := ⟨RX0, "sitting", "()I"⟩
abbrev cX0_alone : ByteArray := prog_2_method_28_code
def yX0_alone : MethodName := ⟨RX0, "alone", "()I"⟩
abbrev cX0_otherwise : ByteArray := prog_2_method_29_code
def yX0_otherwise : MethodName := ⟨RX0, "otherwise", "(LBackSeat$Sheet;)I"⟩
def RX1 : String := "BackSeat$Hat"
def TX1 : u_T := fun k => match k with
  | 0 => ("BackSeat$Hat", "told", "[I", true)
  | 1 => ("BackSeat$Hat", "seats", "[I", true)
  | 2 => ("BackSeat$Hat", "order", "[I", true)
  | 3 => ("BackSeat$Hat", "size", "I", false)
  | 4 => ("BackSeat$Hat", "bestJoy", "I", false)
  | _ => ("BackSeat$Hat", "bestDigits", "I", false)
def tyX1 : Nat → FieldType := fun k => match k with
  | 0 => .array .int
  | 1 => .array .int
  | 2 => .array .int
  | 3 => .int
  | 4 => .int
  | _ => .int
abbrev wsX10 : List Cond := u_ws RX1 TX1 6
theorem nmX1 : ∀ a, a < 6 → ∀ b, b < 6 → a ≠ b → (TX1 a).2.1 ≠ (TX1 b).2.1 := by decide +kernel
theorem tyX1_ok : ∀ k, k < 6 → parseFieldDescriptor (TX1 k).2.2.1 = some (tyX1 k) := by decide +kernel
abbrev cX1_init : ByteArray := prog_3_method_1_code
def yX1_init : MethodName := ⟨RX1, "<init>", "()V"⟩
abbrev cX1_takes : ByteArray := prog_3_method_2_code
def yX1_takes : MethodName := ⟨RX1, "takes", "(LBackSeat$Sheet;LBackSeat$Coach;)Z"⟩
abbrev cX1_isUnlike : ByteArray := prog_3_method_3_code
def yX1_isUnlike : MethodName := ⟨RX1, "isUnlike", "([I)Z"⟩
abbrev cX1_isAllThere : ByteArray := prog_3_method_4_code
def yX1_isAllThere : MethodName := ⟨RX1, "isAllThere", "(LBackSeat$Coach;)Z"⟩
abbrev cX1_isTold : ByteArray := prog_3_method_5_code
def yX1_isTold : MethodName := ⟨RX1, "isTold", "(I)Z"⟩
abbrev cX1_seek : ByteArray := prog_3_method_6_code
def yX1_seek : MethodName := ⟨RX1, "seek", "(LBackSeat$Coach;)V"⟩
abbrev cX1_seatAll : ByteArray := prog_3_method_7_code
def yX1_seatAll : MethodName := ⟨RX1, "seatAll", "(LBackSeat$Coach;)V"⟩
abbrev cX1_digits : ByteArray := prog_3_method_8_code
def yX1_digits : MethodName := ⟨RX1, "digits", "()I"⟩
abbrev cX1_nextOrder : ByteArray := prog_3_method_9_code
def yX1_nextOrder : MethodName := ⟨RX1, "nextOrder", "()Z"⟩
abbrev cX1_swapPlaces : ByteArray := prog_3_method_10_code
def yX1_swapPlaces : MethodName := ⟨RX1, "swapPlaces", "(II)V"⟩
def RX2 : String := "BackSeat$Reader"
def TX2 : u_T := fun k => match k with
  | 0 => ("BackSeat$Reader", "texts", "LBackSeat$Texts;", true)
  | 1 => ("BackSeat$Reader", "tape", "[I", true)
  | 2 => ("BackSeat$Reader", "size", "I", false)
  | 3 => ("BackSeat$Reader", "place", "I", false)
  | 4 => ("BackSeat$Reader", "next", "I", false)
  | 5 => ("BackSeat$Reader", "token", "I", false)
  | _ => ("BackSeat$Reader", "fault", "I", false)
def tyX2 : Nat → FieldType := fun k => match k with
  | 0 => .object "BackSeat$Texts"
  | 1 => .array .int
  | 2 => .int
  | 3 => .int
  | 4 => .int
  | 5 => .int
  | _ => .int
abbrev wsX20 : List Cond := u_ws RX2 TX2 7
theorem nmX2 : ∀ a, a < 7 → ∀ b, b < 7 → a ≠ b → (TX2 a).2.1 ≠ (TX2 b).2.1 := by decide +kernel
theorem tyX2_ok : ∀ k, k < 7 → parseFieldDescriptor (TX2 k).2.2.1 = some (tyX2 k) := by decide +kernel
abbrev cX2_init : ByteArray := prog_4_method_1_code
def yX2_init : MethodName := ⟨RX2, "<init>", "(LBackSeat$Texts;)V"⟩
abbrev cX2_append : ByteArray := prog_4_method_2_code
def yX2_append : MethodName := ⟨RX2, "append", "(I)I"⟩
abbrev cX2_read : ByteArray := prog_4_method_3_code
def yX2_read : MethodName := ⟨RX2, "read", "()I"⟩
abbrev cX2_readOr : ByteArray := prog_4_method_4_code
def yX2_readOr : MethodName := ⟨RX2, "readOr", "(I)V"⟩
abbrev cX2_readAnd : ByteArray := prog_4_method_5_code
def yX2_readAnd : MethodName := ⟨RX2, "readAnd", "(I)V"⟩
abbrev cX2_readNot : ByteArray := prog_4_method_6_code
def yX2_readNot : MethodName := ⟨RX2, "readNot", "(I)V"⟩
abbrev cX2_readSum : ByteArray := prog_4_method_7_code
def yX2_readSum : MethodName := ⟨RX2, "readSum", "(I)V"⟩
abbrev cX2_readTerm : ByteArray := prog_4_method_8_code
def yX2_readTerm : MethodName := ⟨RX2, "readTerm", "(I)V"⟩
abbrev cX2_readOne : ByteArray := prog_4_method_9_code
def yX2_readOne : MethodName := ⟨RX2, "readOne", "(I)V"⟩
abbrev cX2_opens : ByteArray := prog_4_method_10_code
def yX2_opens : MethodName := ⟨RX2, "opens", "(I)Z"⟩
abbrev cX2_expect : ByteArray := prog_4_method_11_code
def yX2_expect : MethodName := ⟨RX2, "expect", "(I)V"⟩
abbrev cX2_fail : ByteArray := prog_4_method_12_code
def yX2_fail : MethodName := ⟨RX2, "fail", "()V"⟩
abbrev cX2_advance : ByteArray := prog_4_method_13_code
def yX2_advance : MethodName := ⟨RX2, "advance", "()V"⟩
abbrev cX2_advanceWord : ByteArray := prog_4_method_14_code
def yX2_advanceWord : MethodName := ⟨RX2, "advanceWord", "()V"⟩
abbrev cX2_isWord : ByteArray := prog_4_method_15_code
def yX2_isWord : MethodName := ⟨RX2, "isWord", "(Ljava/lang/String;)Z"⟩
abbrev cX2_spelling : ByteArray := prog_4_method_16_code
def yX2_spelling : MethodName := ⟨RX2, "spelling", "(I)Ljava/lang/String;"⟩
abbrev cX2_advanceNumber : ByteArray := prog_4_method_17_code
def yX2_advanceNumber : MethodName := ⟨RX2, "advanceNumber", "()V"⟩
abbrev cX2_advanceSign : ByteArray := prog_4_method_18_code
def yX2_advanceSign : MethodName := ⟨RX2, "advanceSign", "(I)V"⟩
abbrev cX2_byteAt : ByteArray := prog_4_method_19_code
def yX2_byteAt : MethodName := ⟨RX2, "byteAt", "(I)I"⟩
abbrev cX2_isBlank : ByteArray := prog_4_method_20_code
def yX2_isBlank : MethodName := ⟨RX2, "isBlank", "(I)Z"⟩
abbrev cX2_isLetter : ByteArray := prog_4_method_21_code
def yX2_isLetter : MethodName := ⟨RX2, "isLetter", "(I)Z"⟩
abbrev cX2_isDigit : ByteArray := prog_4_method_22_code
def yX2_isDigit : MethodName := ⟨RX2, "isDigit", "(I)Z"⟩
def RX3 : String := "BackSeat$Ride"
def TX3 : u_T := fun k => match k with
  | 0 => ("BackSeat$Ride", "queasy", "[I", true)
  | 1 => ("BackSeat$Ride", "has", "[I", true)
  | 2 => ("BackSeat$Ride", "firsts", "[I", true)
  | 3 => ("BackSeat$Ride", "often", "[I", true)
  | 4 => ("BackSeat$Ride", "miles", "I", false)
  | 5 => ("BackSeat$Ride", "size", "I", false)
  | _ => ("BackSeat$Ride", "limit", "I", false)
def tyX3 : Nat → FieldType := fun k => match k with
  | 0 => .array .int
  | 1 => .array .int
  | 2 => .array .int
  | 3 => .array .int
  | 4 => .int
  | 5 => .int
  | _ => .int
abbrev wsX30 : List Cond := u_ws RX3 TX3 7
theorem nmX3 : ∀ a, a < 7 → ∀ b, b < 7 → a ≠ b → (TX3 a).2.1 ≠ (TX3 b).2.1 := by decide +kernel
theorem tyX3_ok : ∀ k, k < 7 → parseFieldDescriptor (TX3 k).2.2.1 = some (tyX3 k) := by decide +kernel
abbrev cX3_init : ByteArray := prog_5_method_1_code
def yX3_init : MethodName := ⟨RX3, "<init>", "()V"⟩
abbrev cX3_plan : ByteArray := prog_5_method_2_code
def yX3_plan : MethodName := ⟨RX3, "plan", "(LBackSeat$Coach;I)V"⟩
abbrev cX3_sick : ByteArray := prog_5_method_3_code
def yX3_sick : MethodName := ⟨RX3, "sick", "(I)I"⟩
abbrev cX3_sickIn : ByteArray := prog_5_method_4_code
def yX3_sickIn : MethodName := ⟨RX3, "sickIn", "(I)I"⟩
abbrev cX3_noteSick : ByteArray := prog_5_method_5_code
def yX3_noteSick : MethodName := ⟨RX3, "noteSick", "(II)V"⟩
abbrev cX3_firstSick : ByteArray := prog_5_method_6_code
def yX3_firstSick : MethodName := ⟨RX3, "firstSick", "()I"⟩
def RX4 : String := "BackSeat$Sheet"
def TX4 : u_T := fun k => match k with
  | 0 => ("BackSeat$Sheet", "sort", "I", false)
  | 1 => ("BackSeat$Sheet", "size", "I", false)
  | _ => ("BackSeat$Sheet", "items", "[I", true)
def tyX4 : Nat → FieldType := fun k => match k with
  | 0 => .int
  | 1 => .int
  | _ => .array .int
abbrev wsX40 : List Cond := u_ws RX4 TX4 3
theorem nmX4 : ∀ a, a < 3 → ∀ b, b < 3 → a ≠ b → (TX4 a).2.1 ≠ (TX4 b).2.1 := by decide +kernel
theorem tyX4_ok : ∀ k, k < 3 → parseFieldDescriptor (TX4 k).2.2.1 = some (tyX4 k) := by decide +kernel
abbrev cX4_init : ByteArray := prog_6_method_1_code
def yX4_init : MethodName := ⟨RX4, "<init>", "()V"⟩
abbrev cX4_become : ByteArray := prog_6_method_2_code
def yX4_become : MethodName := ⟨RX4, "become", "(II)V"⟩
abbrev cX4_isMissing : ByteArray := prog_6_method_3_code
def yX4_isMissing : MethodName := ⟨RX4, "isMissing", "()Z"⟩
abbrev cX4_has : ByteArray := prog_6_method_4_code
def yX4_has : MethodName := ⟨RX4, "has", "(I)Z"⟩
abbrev cX4_hasRun : ByteArray := prog_6_method_5_code
def yX4_hasRun : MethodName := ⟨RX4, "hasRun", "(II)Z"⟩
abbrev cX4_item : ByteArray := prog_6_method_6_code
def yX4_item : MethodName := ⟨RX4, "item", "(I)I"⟩
abbrev cX4_write : ByteArray := prog_6_method_7_code
def yX4_write : MethodName := ⟨RX4, "write", "(II)V"⟩
def RX5 : String := "BackSeat$Texts"
def TX5 : u_T := fun k => match k with
  | 0 => ("BackSeat$Texts", "codes", "[I", true)
  | 1 => ("BackSeat$Texts", "ends", "[I", true)
  | 2 => ("BackSeat$Texts", "stack", "[I", true)
  | 3 => ("BackSeat$Texts", "size", "I", false)
  | _ => ("BackSeat$Texts", "next", "I", false)
def tyX5 : Nat → FieldType := fun k => match k with
  | 0 => .array .int
  | 1 => .array .int
  | 2 => .array .int
  | 3 => .int
  | _ => .int
abbrev wsX50 : List Cond := u_ws RX5 TX5 5
theorem nmX5 : ∀ a, a < 5 → ∀ b, b < 5 → a ≠ b → (TX5 a).2.1 ≠ (TX5 b).2.1 := by decide +kernel
theorem tyX5_ok : ∀ k, k < 5 → parseFieldDescriptor (TX5 k).2.2.1 = some (tyX5 k) := by decide +kernel
abbrev cX5_init : ByteArray := prog_7_method_1_code
def yX5_init : MethodName := ⟨RX5, "<init>", "()V"⟩
abbrev cX5_startDraft : ByteArray := prog_7_method_2_code
def yX5_startDraft : MethodName := ⟨RX5, "startDraft", "()V"⟩
abbrev cX5_add : ByteArray := prog_7_method_3_code
def yX5_add : MethodName := ⟨RX5, "add", "(I)V"⟩
abbrev cX5_endPart : ByteArray := prog_7_method_4_code
def yX5_endPart : MethodName := ⟨RX5, "endPart", "(I)V"⟩
abbrev cX5_keepDraft : ByteArray := prog_7_method_5_code
def yX5_keepDraft : MethodName := ⟨RX5, "keepDraft", "()V"⟩
abbrev cX5_value : ByteArray := prog_7_method_6_code
def yX5_value : MethodName := ⟨RX5, "value", "(II[I)I"⟩
abbrev cX5_joined : ByteArray := prog_7_method_7_code
def yX5_joined : MethodName := ⟨RX5, "joined", "(III)I"⟩
def RX6 : String := "BackSeat"
def TX6 : u_T := fun k => match k with
  | 0 => ("BackSeat", "texts", "LBackSeat$Texts;", true)
  | 1 => ("BackSeat", "reader", "LBackSeat$Reader;", true)
  | 2 => ("BackSeat", "now", "LBackSeat$Coach;", true)
  | 3 => ("BackSeat", "thought", "LBackSeat$Coach;", true)
  | 4 => ("BackSeat", "kept", "LBackSeat$Coach;", true)
  | 5 => ("BackSeat", "isKept", "Z", false)
  | 6 => ("BackSeat", "journey", "LBackSeat$Ride;", true)
  | 7 => ("BackSeat", "drawing", "LBackSeat$Hat;", true)
  | _ => ("BackSeat", "sheets", "[LBackSeat$Sheet;", true)
def tyX6 : Nat → FieldType := fun k => match k with
  | 0 => .object "BackSeat$Texts"
  | 1 => .object "BackSeat$Reader"
  | 2 => .object "BackSeat$Coach"
  | 3 => .object "BackSeat$Coach"
  | 4 => .object "BackSeat$Coach"
  | 5 => .boolean
  | 6 => .object "BackSeat$Ride"
  | 7 => .object "BackSeat$Hat"
  | _ => .array (.object "BackSeat$Sheet")
abbrev wsX60 : List Cond := u_ws RX6 TX6 9
theorem nmX6 : ∀ a, a < 9 → ∀ b, b < 9 → a ≠ b → (TX6 a).2.1 ≠ (TX6 b).2.1 := by decide +kernel
theorem tyX6_ok : ∀ k, k < 9 → parseFieldDescriptor (TX6 k).2.2.1 = some (tyX6 k) := by decide +kernel
abbrev cX6_init : ByteArray := prog_1_method_1_code
def yX6_init : MethodName := ⟨RX6, "<init>", "()V"⟩
abbrev cX6_set : ByteArray := prog_1_method_2_code
def yX6_set : MethodName := ⟨RX6, "set", "(III)I"⟩
abbrev cX6_setForAll : ByteArray := prog_1_method_3_code
def yX6_setForAll : MethodName := ⟨RX6, "setForAll", "(II)I"⟩
abbrev cX6_passenger : ByteArray := prog_1_method_4_code
def yX6_passenger : MethodName := ⟨RX6, "passenger", "(II)I"⟩
abbrev cX6_sit : ByteArray := prog_1_method_5_code
def yX6_sit : MethodName := ⟨RX6, "sit", "(II)I"⟩
abbrev cX6_told : ByteArray := prog_1_method_6_code
def yX6_told : MethodName := ⟨RX6, "told", "(II)I"⟩
abbrev cX6_who : ByteArray := prog_1_method_7_code
def yX6_who : MethodName := ⟨RX6, "who", "(I)I"⟩
abbrev cX6_feed : ByteArray := prog_1_method_8_code
def yX6_feed : MethodName := ⟨RX6, "feed", "(I)I"⟩
abbrev cX6_text : ByteArray := prog_1_method_9_code
def yX6_text : MethodName := ⟨RX6, "text", "()I"⟩
abbrev cX6_force : ByteArray := prog_1_method_10_code
def yX6_force : MethodName := ⟨RX6, "force", "(I)I"⟩
abbrev cX6_all : ByteArray := prog_1_method_11_code
def yX6_all : MethodName := ⟨RX6, "all", "(I)I"⟩
abbrev cX6_ride : ByteArray := prog_1_method_12_code
def yX6_ride : MethodName := ⟨RX6, "ride", "(II)I"⟩
abbrev cX6_isRide : ByteArray := prog_1_method_13_code
def yX6_isRide : MethodName := ⟨RX6, "isRide", "(I)Z"⟩
abbrev cX6_best : ByteArray := prog_1_method_14_code
def yX6_best : MethodName := ⟨RX6, "best", "(II)I"⟩
abbrev cX6_change : ByteArray := prog_1_method_15_code
def yX6_change : MethodName := ⟨RX6, "change", "(I)I"⟩
abbrev cX6_watch : ByteArray := prog_1_method_16_code
def yX6_watch : MethodName := ⟨RX6, "watch", "(I)I"⟩
abbrev cX6_hat : ByteArray := prog_1_method_17_code
def yX6_hat : MethodName := ⟨RX6, "hat", "(II)I"⟩
abbrev cX6_front : ByteArray := prog_1_method_18_code
def yX6_front : MethodName := ⟨RX6, "front", "(II)I"⟩
abbrev cX6_stop : ByteArray := prog_1_method_19_code
def yX6_stop : MethodName := ⟨RX6, "stop", "(II)I"⟩
abbrev cX6_isZeroOrOne : ByteArray := prog_1_method_20_code
def yX6_isZeroOrOne : MethodName := ⟨RX6, "isZeroOrOne", "(I)Z"⟩
abbrev cX6_dinMoved : ByteArray := prog_1_method_21_code
def yX6_dinMoved : MethodName := ⟨RX6, "dinMoved", "(II)I"⟩
abbrev cX6_dinChanged : ByteArray := prog_1_method_22_code
def yX6_dinChanged : MethodName := ⟨RX6, "dinChanged", "(II)I"⟩
abbrev cX6_sickMoved : ByteArray := prog_1_method_23_code
def yX6_sickMoved : MethodName := ⟨RX6, "sickMoved", "(III)I"⟩
abbrev cX6_tells : ByteArray := prog_1_method_24_code
def yX6_tells : MethodName := ⟨RX6, "tells", "(II)I"⟩
abbrev cX6_textsTold : ByteArray := prog_1_method_25_code
def yX6_textsTold : MethodName := ⟨RX6, "textsTold", "(LBackSeat$Sheet;)I"⟩
abbrev cX6_milesTold : ByteArray := prog_1_method_26_code
def yX6_milesTold : MethodName := ⟨RX6, "milesTold", "(LBackSeat$Sheet;)I"⟩
abbrev cX6_leastMileTold : ByteArray := prog_1_method_27_code
def yX6_leastMileTold : MethodName := ⟨RX6, "leastMileTold", "(LBackSeat$Sheet;)I"⟩
abbrev cX6_itemsTold : ByteArray := prog_1_method_28_code
def yX6_itemsTold : MethodName := ⟨RX6, "itemsTold", "(LBackSeat$Sheet;[III)I"⟩
abbrev cX6_seatsTold : ByteArray := prog_1_method_29_code
def yX6_seatsTold : MethodName := ⟨RX6, "seatsTold", "(LBackSeat$Sheet;I)I"⟩
abbrev cX6_film : ByteArray := prog_1_method_30_code
def yX6_film : MethodName := ⟨RX6, "film", "(I)I"⟩
abbrev cX6_drawn : ByteArray := prog_1_method_31_code
def yX6_drawn : MethodName := ⟨RX6, "drawn", "(I)I"⟩
abbrev cX6_chance : ByteArray := prog_1_method_32_code
def yX6_chance : MethodName := ⟨RX6, "chance", "(III)J"⟩
abbrev cX6_lowered : ByteArray := prog_1_method_33_code
def yX6_lowered : MethodName := ⟨RX6, "lowered", "(III)I"⟩
abbrev cX6_image : ByteArray := prog_1_method_34_code
def yX6_image : MethodName := ⟨RX6, "image", "()I"⟩
abbrev cX6_back : ByteArray := prog_1_method_35_code
def yX6_back : MethodName := ⟨RX6, "back", "()I"⟩
abbrev cX6_count : ByteArray := prog_1_method_36_code
def yX6_count : MethodName := ⟨RX6, "count", "(I)I"⟩
abbrev cX6_sheet : ByteArray := prog_1_method_37_code
def yX6_sheet : MethodName := ⟨RX6, "sheet", "(III)I"⟩
abbrev cX6_cell : ByteArray := prog_1_method_38_code
def yX6_cell : MethodName := ⟨RX6, "cell", "(III)I"⟩
abbrev cX6_copy : ByteArray := prog_1_method_39_code
def yX6_copy : MethodName := ⟨RX6, "copy", "(IIIII)I"⟩
abbrev cX6_passengers : ByteArray := prog_1_method_40_code
def yX6_passengers : MethodName := ⟨RX6, "passengers", "(IIII)I"⟩
abbrev cX6_taken : ByteArray := prog_1_method_41_code
def yX6_taken : MethodName := ⟨RX6, "taken", "(II)I"⟩
abbrev cX6_isUnder : ByteArray := prog_1_method_42_code
def yX6_isUnder : MethodName := ⟨RX6, "isUnder", "(II)Z"⟩
abbrev cX6_kindAbove : ByteArray := prog_1_method_43_code
def yX6_kindAbove : MethodName := ⟨RX6, "kindAbove", "(I)I"⟩
abbrev cX6_sheetAt : ByteArray := prog_1_method_44_code
def yX6_sheetAt : MethodName := ⟨RX6, "sheetAt", "(I)LBackSeat$Sheet;"⟩
abbrev cX6_itemAt : ByteArray := prog_1_method_45_code
def yX6_itemAt : MethodName := ⟨RX6, "itemAt", "([II)I"⟩
abbrev cX6_put : ByteArray := prog_1_method_46_code
def yX6_put : MethodName := ⟨RX6, "put", "([III)V"⟩
abbrev cX6_swapItem : ByteArray := prog_1_method_47_code
def yX6_swapItem : MethodName := ⟨RX6, "swapItem", "([III)I"⟩
abbrev cX6_fill : ByteArray := prog_1_method_48_code
def yX6_fill : MethodName := ⟨RX6, "fill", "([II)V"⟩
abbrev cX6_fillFrom : ByteArray := prog_1_method_49_code
def yX6_fillFrom : MethodName := ⟨RX6, "fillFrom", "([I[I)V"⟩
abbrev cX6_pairSeat : ByteArray := prog_1_method_50_code
def yX6_pairSeat : MethodName := ⟨RX6, "pairSeat", "(I)I"⟩
abbrev cX6_crossSeat : ByteArray := prog_1_method_51_code
def yX6_crossSeat : MethodName := ⟨RX6, "crossSeat", "(I)I"⟩
abbrev cX6_noiseBy : ByteArray := prog_1_method_52_code
def yX6_noiseBy : MethodName := ⟨RX6, "noiseBy", "(IIIIZ)I"⟩
abbrev cX6_queasyBy : ByteArray := prog_1_method_53_code
def yX6_queasyBy : MethodName := ⟨RX6, "queasyBy", "(III)I"⟩
abbrev cX6_gladBy : ByteArray := prog_1_method_54_code
def yX6_gladBy : MethodName := ⟨RX6, "gladBy", "(IIIZ)I"⟩
abbrev cX6_bounded : ByteArray := prog_1_method_55_code
def yX6_bounded : MethodName := ⟨RX6, "bounded", "(III)I"⟩
def RX7 : String := "BackSeatModel"
def TX7 : u_T := fun k => match k with
  | 0 => ("BackSeatModel", "thrown", "I", false)
  | 1 => ("BackSeatModel", "texts", "[I", true)
  | 2 => ("BackSeatModel", "textSize", "[I", true)
  | 3 => ("BackSeatModel", "textCount", "I", false)
  | 4 => ("BackSeatModel", "rule", "I", false)
  | 5 => ("BackSeatModel", "tape", "[I", true)
  | 6 => ("BackSeatModel", "taped", "I", false)
  | 7 => ("BackSeatModel", "mileNow", "I", false)
  | 8 => ("BackSeatModel", "limit", "I", false)
  | 9 => ("BackSeatModel", "kinds", "[I", true)
  | 10 => ("BackSeatModel", "numbers", "[I", true)
  | 11 => ("BackSeatModel", "friends", "[I", true)
  | 12 => ("BackSeatModel", "seatOf", "[I", true)
  | 13 => ("BackSeatModel", "sits", "[I", true)
  | 14 => ("BackSeatModel", "many", "I", false)
  | 15 => ("BackSeatModel", "ofRow", "I", false)
  | 16 => ("BackSeatModel", "ofColumn", "I", false)
  | 17 => ("BackSeatModel", "ofMile", "I", false)
  | 18 => ("BackSeatModel", "ofNumber", "I", false)
  | 19 => ("BackSeatModel", "ofBeside", "I", false)
  | 20 => ("BackSeatModel", "ofFriend", "I", false)
  | 21 => ("BackSeatModel", "from", "I", false)
  | 22 => ("BackSeatModel", "size", "I", false)
  | 23 => ("BackSeatModel", "here", "I", false)
  | 24 => ("BackSeatModel", "token", "I", false)
  | 25 => ("BackSeatModel", "tokenAt", "I", false)
  | 26 => ("BackSeatModel", "tokenWorth", "J", false)
  | 27 => ("BackSeatModel", "open", "I", false)
  | 28 => ("BackSeatModel", "bad", "Z", false)
  | 29 => ("BackSeatModel", "fault", "I", false)
  | 30 => ("BackSeatModel", "ill", "[I", true)
  | 31 => ("BackSeatModel", "often", "[I", true)
  | 32 => ("BackSeatModel", "firstIn", "[I", true)
  | 33 => ("BackSeatModel", "sickAll", "I", false)
  | 34 => ("BackSeatModel", "firstWho", "I", false)
  | 35 => ("BackSeatModel", "found", "I", false)
  | 36 => ("BackSeatModel", "least", "I", false)
  | 37 => ("BackSeatModel", "hatMany", "I", false)
  | 38 => ("BackSeatModel", "hatDigits", "I", false)
  | 39 => ("BackSeatModel", "hatJoy", "I", false)
  | 40 => ("BackSeatModel", "seatsWas", "[I", true)
  | 41 => ("BackSeatModel", "numbersKept", "[I", true)
  | 42 => ("BackSeatModel", "friendsKept", "[I", true)
  | 43 => ("BackSeatModel", "seatsKept", "[I", true)
  | 44 => ("BackSeatModel", "manyKept", "I", false)
  | 45 => ("BackSeatModel", "mileKept", "I", false)
  | 46 => ("BackSeatModel", "limitKept", "I", false)
  | 47 => ("BackSeatModel", "ruleKept", "I", false)
  | 48 => ("BackSeatModel", "isThere", "[Z", true)
  | 49 => ("BackSeatModel", "sorts", "[I", true)
  | 50 => ("BackSeatModel", "sheetSize", "[I", true)
  | _ => ("BackSeatModel", "items", "[I", true)
def tyX7 : Nat → FieldType := fun k => match k with
  | 0 => .int
  | 1 => .array .int
  | 2 => .array .int
  | 3 => .int
  | 4 => .int
  | 5 => .array .int
  | 6 => .int
  | 7 => .int
  | 8 => .int
  | 9 => .array .int
  | 10 => .array .int
  | 11 => .array .int
  | 12 => .array .int
  | 13 => .array .int
  | 14 => .int
  | 15 => .int
  | 16 => .int
  | 17 => .int
  | 18 => .int
  | 19 => .int
  | 20 => .int
  | 21 => .int
  | 22 => .int
  | 23 => .int
  | 24 => .int
  | 25 => .int
  | 26 => .long
  | 27 => .int
  | 28 => .boolean
  | 29 => .int
  | 30 => .array .int
  | 31 => .array .int
  | 32 => .array .int
  | 33 => .int
  | 34 => .int
  | 35 => .int
  | 36 => .int
  | 37 => .int
  | 38 => .int
  | 39 => .int
  | 40 => .array .int
  | 41 => .array .int
  | 42 => .array .int
  | 43 => .array .int
  | 44 => .int
  | 45 => .int
  | 46 => .int
  | 47 => .int
  | 48 => .array .boolean
  | 49 => .array .int
  | 50 => .array .int
  | _ => .array .int
abbrev wsX70 : List Cond := u_ws RX7 TX7 52
theorem nmX7 : ∀ a, a < 52 → ∀ b, b < 52 → a ≠ b → (TX7 a).2.1 ≠ (TX7 b).2.1 := by decide +kernel
theorem tyX7_ok : ∀ k, k < 52 → parseFieldDescriptor (TX7 k).2.2.1 = some (tyX7 k) := by decide +kernel
abbrev cX7_in : ByteArray := prog_9_method_2_code
def yX7_in : MethodName := ⟨RX7, "in", "(JJJ)Z"⟩
abbrev cX7_within : ByteArray := prog_9_method_3_code
def yX7_within : MethodName := ⟨RX7, "within", "(III)I"⟩
abbrev cX7_init : ByteArray := prog_9_method_4_code
def yX7_init : MethodName := ⟨RX7, "<init>", "()V"⟩
abbrev cX7_spell : ByteArray := prog_9_method_5_code
def yX7_spell : MethodName := ⟨RX7, "spell", "(IIIIIIIII)V"⟩
abbrev cX7_isOne : ByteArray := prog_9_method_6_code
def yX7_isOne : MethodName := ⟨RX7, "isOne", "(I)Z"⟩
abbrev cX7_isSeat : ByteArray := prog_9_method_7_code
def yX7_isSeat : MethodName := ⟨RX7, "isSeat", "(I)Z"⟩
abbrev cX7_isValue : ByteArray := prog_9_method_8_code
def yX7_isValue : MethodName := ⟨RX7, "isValue", "(III)Z"⟩
abbrev cX7_set : ByteArray := prog_9_method_9_code
def yX7_set : MethodName := ⟨RX7, "set", "(III)I"⟩
abbrev cX7_lays : ByteArray := prog_9_method_10_code
def yX7_lays : MethodName := ⟨RX7, "lays", "(III)V"⟩
abbrev cX7_passenger : ByteArray := prog_9_method_11_code
def yX7_passenger : MethodName := ⟨RX7, "passenger", "(II)I"⟩
abbrev cX7_seats : ByteArray := prog_9_method_12_code
def yX7_seats : MethodName := ⟨RX7, "seats", "(II)V"⟩
abbrev cX7_sit : ByteArray := prog_9_method_13_code
def yX7_sit : MethodName := ⟨RX7, "sit", "(II)I"⟩
abbrev cX7_told : ByteArray := prog_9_method_14_code
def yX7_told : MethodName := ⟨RX7, "told", "(II)I"⟩
abbrev cX7_who : ByteArray := prog_9_method_15_code
def yX7_who : MethodName := ⟨RX7, "who", "(I)I"⟩
abbrev cX7_feed : ByteArray := prog_9_method_16_code
def yX7_feed : MethodName := ⟨RX7, "feed", "(I)I"⟩
abbrev cX7_byteAt : ByteArray := prog_9_method_17_code
def yX7_byteAt : MethodName := ⟨RX7, "byteAt", "(I)I"⟩
abbrev cX7_next : ByteArray := prog_9_method_18_code
def yX7_next : MethodName := ⟨RX7, "next", "()V"⟩
abbrev cX7_fail : ByteArray := prog_9_method_19_code
def yX7_fail : MethodName := ⟨RX7, "fail", "()V"⟩
abbrev cX7_isLetter : ByteArray := prog_9_method_20_code
def yX7_isLetter : MethodName := ⟨RX7, "isLetter", "(II)Z"⟩
abbrev cX7_isWord : ByteArray := prog_9_method_21_code
def yX7_isWord : MethodName := ⟨RX7, "isWord", "(IIIIIIII)Z"⟩
abbrev cX7_isSign : ByteArray := prog_9_method_22_code
def yX7_isSign : MethodName := ⟨RX7, "isSign", "(I)Z"⟩
abbrev cX7_opens : ByteArray := prog_9_method_23_code
def yX7_opens : MethodName := ⟨RX7, "opens", "()Z"⟩
abbrev cX7_name : ByteArray := prog_9_method_24_code
def yX7_name : MethodName := ⟨RX7, "name", "()I"⟩
abbrev cX7_atom : ByteArray := prog_9_method_25_code
def yX7_atom : MethodName := ⟨RX7, "atom", "()I"⟩
abbrev cX7_term : ByteArray := prog_9_method_26_code
def yX7_term : MethodName := ⟨RX7, "term", "()I"⟩
abbrev cX7_added : ByteArray := prog_9_method_27_code
def yX7_added : MethodName := ⟨RX7, "added", "()I"⟩
abbrev cX7_not : ByteArray := prog_9_method_28_code
def yX7_not : MethodName := ⟨RX7, "not", "()I"⟩
abbrev cX7_both : ByteArray := prog_9_method_29_code
def yX7_both : MethodName := ⟨RX7, "both", "()I"⟩
abbrev cX7_either : ByteArray := prog_9_method_30_code
def yX7_either : MethodName := ⟨RX7, "either", "()I"⟩
abbrev cX7_part : ByteArray := prog_9_method_31_code
def yX7_part : MethodName := ⟨RX7, "part", "(Z)I"⟩
abbrev cX7_read : ByteArray := prog_9_method_32_code
def yX7_read : MethodName := ⟨RX7, "read", "(II)I"⟩
abbrev cX7_text : ByteArray := prog_9_method_33_code
def yX7_text : MethodName := ⟨RX7, "text", "()I"⟩
abbrev cX7_force : ByteArray := prog_9_method_34_code
def yX7_force : MethodName := ⟨RX7, "force", "(I)I"⟩
abbrev cX7_neighbour : ByteArray := prog_9_method_35_code
def yX7_neighbour : MethodName := ⟨RX7, "neighbour", "(II)I"⟩
abbrev cX7_besideOf : ByteArray := prog_9_method_36_code
def yX7_besideOf : MethodName := ⟨RX7, "besideOf", "(I)I"⟩
abbrev cX7_isTeacher : ByteArray := prog_9_method_37_code
def yX7_isTeacher : MethodName := ⟨RX7, "isTeacher", "(I)Z"⟩
abbrev cX7_isWatched : ByteArray := prog_9_method_38_code
def yX7_isWatched : MethodName := ⟨RX7, "isWatched", "(I)Z"⟩
abbrev cX7_hasFriend : ByteArray := prog_9_method_39_code
def yX7_hasFriend : MethodName := ⟨RX7, "hasFriend", "(I)Z"⟩
abbrev cX7_asks : ByteArray := prog_9_method_40_code
def yX7_asks : MethodName := ⟨RX7, "asks", "(III)I"⟩
abbrev cX7_noiseOf : ByteArray := prog_9_method_41_code
def yX7_noiseOf : MethodName := ⟨RX7, "noiseOf", "(I)I"⟩
abbrev cX7_queasyOf : ByteArray := prog_9_method_42_code
def yX7_queasyOf : MethodName := ⟨RX7, "queasyOf", "(II)I"⟩
abbrev cX7_gladOf : ByteArray := prog_9_method_43_code
def yX7_gladOf : MethodName := ⟨RX7, "gladOf", "(I)I"⟩
abbrev cX7_din : ByteArray := prog_9_method_44_code
def yX7_din : MethodName := ⟨RX7, "din", "()I"⟩
abbrev cX7_joy : ByteArray := prog_9_method_45_code
def yX7_joy : MethodName := ⟨RX7, "joy", "()I"⟩
abbrev cX7_all : ByteArray := prog_9_method_46_code
def yX7_all : MethodName := ⟨RX7, "all", "(I)I"⟩
abbrev cX7_rides : ByteArray := prog_9_method_47_code
def yX7_rides : MethodName := ⟨RX7, "rides", "(II)V"⟩
abbrev cX7_ride : ByteArray := prog_9_method_48_code
def yX7_ride : MethodName := ⟨RX7, "ride", "(II)I"⟩
abbrev cX7_best : ByteArray := prog_9_method_49_code
def yX7_best : MethodName := ⟨RX7, "best", "(II)I"⟩
abbrev cX7_swaps : ByteArray := prog_9_method_50_code
def yX7_swaps : MethodName := ⟨RX7, "swaps", "(II)V"⟩
abbrev cX7_looksAt : ByteArray := prog_9_method_51_code
def yX7_looksAt : MethodName := ⟨RX7, "looksAt", "(II)V"⟩
abbrev cX7_change : ByteArray := prog_9_method_52_code
def yX7_change : MethodName := ⟨RX7, "change", "(I)I"⟩
abbrev cX7_firstTeacher : ByteArray := prog_9_method_53_code
def yX7_firstTeacher : MethodName := ⟨RX7, "firstTeacher", "()I"⟩
abbrev cX7_watch : ByteArray := prog_9_method_54_code
def yX7_watch : MethodName := ⟨RX7, "watch", "(I)I"⟩
abbrev cX7_isHat : ByteArray := prog_9_method_55_code
def yX7_isHat : MethodName := ⟨RX7, "isHat", "(I)Z"⟩
abbrev cX7_seeks : ByteArray := prog_9_method_56_code
def yX7_seeks : MethodName := ⟨RX7, "seeks", "(IIII)V"⟩
abbrev cX7_stands : ByteArray := prog_9_method_57_code
def yX7_stands : MethodName := ⟨RX7, "stands", "()V"⟩
abbrev cX7_sitsAgain : ByteArray := prog_9_method_58_code
def yX7_sitsAgain : MethodName := ⟨RX7, "sitsAgain", "()V"⟩
abbrev cX7_hat : ByteArray := prog_9_method_59_code
def yX7_hat : MethodName := ⟨RX7, "hat", "(II)I"⟩
abbrev cX7_front : ByteArray := prog_9_method_60_code
def yX7_front : MethodName := ⟨RX7, "front", "(II)I"⟩
abbrev cX7_stop : ByteArray := prog_9_method_61_code
def yX7_stop : MethodName := ⟨RX7, "stop", "(II)I"⟩
abbrev cX7_unlike : ByteArray := prog_9_method_62_code
def yX7_unlike : MethodName := ⟨RX7, "unlike", "(I)I"⟩
abbrev cX7_seatsBy : ByteArray := prog_9_method_63_code
def yX7_seatsBy : MethodName := ⟨RX7, "seatsBy", "(II)I"⟩
abbrev cX7_tells : ByteArray := prog_9_method_64_code
def yX7_tells : MethodName := ⟨RX7, "tells", "(II)I"⟩
abbrev cX7_film : ByteArray := prog_9_method_65_code
def yX7_film : MethodName := ⟨RX7, "film", "(I)I"⟩
abbrev cX7_dinBy : ByteArray := prog_9_method_66_code
def yX7_dinBy : MethodName := ⟨RX7, "dinBy", "(I)I"⟩
abbrev cX7_drawn : ByteArray := prog_9_method_67_code
def yX7_drawn : MethodName := ⟨RX7, "drawn", "(I)I"⟩
abbrev cX7_chance : ByteArray := prog_9_method_68_code
def yX7_chance : MethodName := ⟨RX7, "chance", "(III)J"⟩
abbrev cX7_image : ByteArray := prog_9_method_69_code
def yX7_image : MethodName := ⟨RX7, "image", "()I"⟩
abbrev cX7_back : ByteArray := prog_9_method_70_code
def yX7_back : MethodName := ⟨RX7, "back", "()I"⟩
abbrev cX7_count : ByteArray := prog_9_method_71_code
def yX7_count : MethodName := ⟨RX7, "count", "(I)I"⟩
abbrev cX7_isSheet : ByteArray := prog_9_method_72_code
def yX7_isSheet : MethodName := ⟨RX7, "isSheet", "(I)Z"⟩
abbrev cX7_sheet : ByteArray := prog_9_method_73_code
def yX7_sheet : MethodName := ⟨RX7, "sheet", "(III)I"⟩
abbrev cX7_cell : ByteArray := prog_9_method_74_code
def yX7_cell : MethodName := ⟨RX7, "cell", "(III)I"⟩
abbrev cX7_copy : ByteArray := prog_9_method_75_code
def yX7_copy : MethodName := ⟨RX7, "copy", "(IIIII)I"⟩
abbrev cX7_passengers : ByteArray := prog_9_method_76_code
def yX7_passengers : MethodName := ⟨RX7, "passengers", "(IIII)I"⟩
abbrev cX7_over : ByteArray := prog_9_method_77_code
def yX7_over : MethodName := ⟨RX7, "over", "(I)I"⟩
abbrev cX7_taken : ByteArray := prog_9_method_78_code
def yX7_taken : MethodName := ⟨RX7, "taken", "(II)I"⟩
def RJ0 : String := "java/lang/String"
def TJ0 : u_T := fun k => match k with
  | _ => ("", "", "", false)
def tyJ0 : Nat → FieldType := fun k => match k with
  | _ => .int
abbrev wsJ00 : List Cond := u_ws RJ0 TJ0 0
abbrev cJ0_length_8abf5 : ByteArray := prog_10_method_54_code
def yJ0_length_8abf5 : MethodName := ⟨RJ0, "length", "()I"⟩
abbrev cJ0_charAt_5068e : ByteArray := prog_10_method_56_code
def yJ0_charAt_5068e : MethodName := ⟨RJ0, "charAt", "(I)C"⟩
abbrev cJ0_coder_7d493 : ByteArray := prog_10_method_152_code
def yJ0_coder_7d493 : MethodName := ⟨RJ0, "coder", "()B"⟩
abbrev cJ0_isLatin1_aae02 : ByteArray := prog_10_method_154_code
def yJ0_isLatin1_aae02 : MethodName := ⟨RJ0, "isLatin1", "()Z"⟩
abbrev cJ0_checkIndex_df160 : ByteArray := prog_10_method_155_code
def yJ0_checkIndex_df160 : MethodName := ⟨RJ0, "checkIndex", "(II)V"⟩
def RJ1 : String := "java/lang/StringLatin1"
def TJ1 : u_T := fun k => match k with
  | _ => ("", "", "", false)
def tyJ1 : Nat → FieldType := fun k => match k with
  | _ => .int
abbrev wsJ10 : List Cond := u_ws RJ1 TJ1 0
abbrev cJ1_charAt_3b067 : ByteArray := prog_11_method_2_code
def yJ1_charAt_3b067 : MethodName := ⟨RJ1, "charAt", "([BI)C"⟩
def RJ2 : String := "java/lang/StringUTF16"
def TJ2 : u_T := fun k => match k with
  | _ => ("", "", "", false)
def tyJ2 : Nat → FieldType := fun k => match k with
  | _ => .int
abbrev wsJ20 : List Cond := u_ws RJ2 TJ2 0
abbrev cJ2_getChar_3b067 : ByteArray := prog_12_method_5_code
def yJ2_getChar_3b067 : MethodName := ⟨RJ2, "getChar", "([BI)C"⟩
abbrev cJ2_length_9d52b : ByteArray := prog_12_method_6_code
def yJ2_length_9d52b : MethodName := ⟨RJ2, "length", "([B)I"⟩
abbrev cJ2_charAt_3b067 : ByteArray := prog_12_method_83_code
def yJ2_charAt_3b067 : MethodName := ⟨RJ2, "charAt", "([BI)C"⟩
abbrev cJ2_checkIndex_2214a : ByteArray := prog_12_method_91_code
def yJ2_checkIndex_2214a : MethodName := ⟨RJ2, "checkIndex", "(I[B)V"⟩
def RJ10 : String := "java/lang/System"
def TJ10 : u_T := fun k => match k with
  | _ => ("", "", "", false)
def tyJ10 : Nat → FieldType := fun k => match k with
  | _ => .int
abbrev wsJ100 : List Cond := u_ws RJ10 TJ10 0
def RJ3 : String := "jdk/internal/util/Preconditions"
def TJ3 : u_T := fun k => match k with
  | _ => ("", "", "", false)
def tyJ3 : Nat → FieldType := fun k => match k with
  | _ => .int
abbrev wsJ30 : List Cond := u_ws RJ3 TJ3 0
abbrev cJ3_checkIndex_8e157 : ByteArray := prog_14_method_11_code
def yJ3_checkIndex_8e157 : MethodName := ⟨RJ3, "checkIndex", "(IILjava/util/function/BiFunction;)I"⟩
def RL : String := "BackSeatLaw"
abbrev cL_law : ByteArray := code
def yL_law : MethodName := ⟨RL, "law", "([I)Z"⟩
abbrev vwCl : List vw_C := [(RX0, TX0, 11), (RX1, TX1, 6), (RX2, TX2, 7), (RX3, TX3, 7), (RX4, TX4, 3), (RX5, TX5, 5), (RX6, TX6, 9), (RX7, TX7, 52)]
