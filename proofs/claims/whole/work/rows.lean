section
/-! names, by the task's own print: classes, fields, methods (no decode rows) -/
-- ===== PART A: goes FIRST, ahead of the names: the tables' words, and 'selects' of the private methods out of them =====
/-- a private method of a class that the tables say can be made, by its rows of tables_1 -/
def lw_okq (q : MethodName × Nat) : Prop := (q.1.cls ≠ "java/lang/invoke/MethodHandle" ∧ q.1.cls ≠ "java/lang/invoke/VarHandle") ∧ Cond.instantiable q.1.cls q.2 ∈ tables_1 ∧ Cond.privateMethod q.1 ∈ tables_1 ∧ Cond.instanceMethod q.1 ∈ tables_1
theorem lw_p0 : lw_okq (⟨"BackSeat$Reader", "advance", "()V"⟩, 7) := ⟨⟨by decide +kernel, by decide +kernel⟩, List.mem_of_getElem? (i := 47) (by decide +kernel), List.mem_of_getElem? (i := 271) (by decide +kernel), List.mem_of_getElem? (i := 272) (by decide +kernel)⟩
theorem lw_p1 : lw_okq (⟨"BackSeat$Reader", "byteAt", "(I)I"⟩, 7) := ⟨⟨by decide +kernel, by decide +kernel⟩, List.mem_of_getElem? (i := 47) (by decide +kernel), List.mem_of_getElem? (i := 275) (by decide +kernel), List.mem_of_getElem? (i := 276) (by decide +kernel)⟩
theorem lw_p2 : lw_okq (⟨"BackSeat$Reader", "advanceWord", "()V"⟩, 7) := ⟨⟨by decide +kernel, by decide +kernel⟩, List.mem_of_getElem? (i := 47) (by decide +kernel), List.mem_of_getElem? (i := 288) (by decide +kernel), List.mem_of_getElem? (i := 289) (by decide +kernel)⟩
theorem lw_p3 : lw_okq (⟨"BackSeat$Reader", "isWord", "(Ljava/lang/String;)Z"⟩, 7) := ⟨⟨by decide +kernel, by decide +kernel⟩, List.mem_of_getElem? (i := 47) (by decide +kernel), List.mem_of_getElem? (i := 307) (by decide +kernel), List.mem_of_getElem? (i := 308) (by decide +kernel)⟩
theorem lw_p4 : lw_okq (⟨"BackSeat$Reader", "fail", "()V"⟩, 7) := ⟨⟨by decide +kernel, by decide +kernel⟩, List.mem_of_getElem? (i := 47) (by decide +kernel), List.mem_of_getElem? (i := 313) (by decide +kernel), List.mem_of_getElem? (i := 314) (by decide +kernel)⟩
theorem lw_p5 : lw_okq (⟨"BackSeat$Reader", "advanceNumber", "()V"⟩, 7) := ⟨⟨by decide +kernel, by decide +kernel⟩, List.mem_of_getElem? (i := 47) (by decide +kernel), List.mem_of_getElem? (i := 320) (by decide +kernel), List.mem_of_getElem? (i := 321) (by decide +kernel)⟩
theorem lw_p6 : lw_okq (⟨"BackSeat$Reader", "advanceSign", "(I)V"⟩, 7) := ⟨⟨by decide +kernel, by decide +kernel⟩, List.mem_of_getElem? (i := 47) (by decide +kernel), List.mem_of_getElem? (i := 324) (by decide +kernel), List.mem_of_getElem? (i := 325) (by decide +kernel)⟩
theorem lw_p7 : lw_okq (⟨"BackSeat$Reader", "expect", "(I)V"⟩, 7) := ⟨⟨by decide +kernel, by decide +kernel⟩, List.mem_of_getElem? (i := 47) (by decide +kernel), List.mem_of_getElem? (i := 328) (by decide +kernel), List.mem_of_getElem? (i := 329) (by decide +kernel)⟩
theorem lw_p8 : lw_okq (⟨"BackSeat$Reader", "readOr", "(I)V"⟩, 7) := ⟨⟨by decide +kernel, by decide +kernel⟩, List.mem_of_getElem? (i := 47) (by decide +kernel), List.mem_of_getElem? (i := 332) (by decide +kernel), List.mem_of_getElem? (i := 333) (by decide +kernel)⟩
theorem lw_p9 : lw_okq (⟨"BackSeat$Reader", "readAnd", "(I)V"⟩, 7) := ⟨⟨by decide +kernel, by decide +kernel⟩, List.mem_of_getElem? (i := 47) (by decide +kernel), List.mem_of_getElem? (i := 336) (by decide +kernel), List.mem_of_getElem? (i := 337) (by decide +kernel)⟩
theorem lw_p10 : lw_okq (⟨"BackSeat$Reader", "readNot", "(I)V"⟩, 7) := ⟨⟨by decide +kernel, by decide +kernel⟩, List.mem_of_getElem? (i := 47) (by decide +kernel), List.mem_of_getElem? (i := 340) (by decide +kernel), List.mem_of_getElem? (i := 341) (by decide +kernel)⟩
theorem lw_p11 : lw_okq (⟨"BackSeat$Reader", "opens", "(I)Z"⟩, 7) := ⟨⟨by decide +kernel, by decide +kernel⟩, List.mem_of_getElem? (i := 47) (by decide +kernel), List.mem_of_getElem? (i := 344) (by decide +kernel), List.mem_of_getElem? (i := 345) (by decide +kernel)⟩
theorem lw_p12 : lw_okq (⟨"BackSeat$Reader", "readSum", "(I)V"⟩, 7) := ⟨⟨by decide +kernel, by decide +kernel⟩, List.mem_of_getElem? (i := 47) (by decide +kernel), List.mem_of_getElem? (i := 353) (by decide +kernel), List.mem_of_getElem? (i := 354) (by decide +kernel)⟩
theorem lw_p13 : lw_okq (⟨"BackSeat$Reader", "readTerm", "(I)V"⟩, 7) := ⟨⟨by decide +kernel, by decide +kernel⟩, List.mem_of_getElem? (i := 47) (by decide +kernel), List.mem_of_getElem? (i := 357) (by decide +kernel), List.mem_of_getElem? (i := 358) (by decide +kernel)⟩
theorem lw_p14 : lw_okq (⟨"BackSeat$Reader", "readOne", "(I)V"⟩, 7) := ⟨⟨by decide +kernel, by decide +kernel⟩, List.mem_of_getElem? (i := 47) (by decide +kernel), List.mem_of_getElem? (i := 361) (by decide +kernel), List.mem_of_getElem? (i := 362) (by decide +kernel)⟩
theorem lw_p15 : lw_okq (⟨"BackSeat", "setForAll", "(II)I"⟩, 9) := ⟨⟨by decide +kernel, by decide +kernel⟩, List.mem_of_getElem? (i := 15) (by decide +kernel), List.mem_of_getElem? (i := 406) (by decide +kernel), List.mem_of_getElem? (i := 407) (by decide +kernel)⟩
def lw_privs_1 : List (MethodName × Nat) := [(⟨"BackSeat$Reader", "advance", "()V"⟩, 7), (⟨"BackSeat$Reader", "byteAt", "(I)I"⟩, 7), (⟨"BackSeat$Reader", "advanceWord", "()V"⟩, 7), (⟨"BackSeat$Reader", "isWord", "(Ljava/lang/String;)Z"⟩, 7), (⟨"BackSeat$Reader", "fail", "()V"⟩, 7), (⟨"BackSeat$Reader", "advanceNumber", "()V"⟩, 7), (⟨"BackSeat$Reader", "advanceSign", "(I)V"⟩, 7), (⟨"BackSeat$Reader", "expect", "(I)V"⟩, 7), (⟨"BackSeat$Reader", "readOr", "(I)V"⟩, 7), (⟨"BackSeat$Reader", "readAnd", "(I)V"⟩, 7), (⟨"BackSeat$Reader", "readNot", "(I)V"⟩, 7), (⟨"BackSeat$Reader", "opens", "(I)Z"⟩, 7), (⟨"BackSeat$Reader", "readSum", "(I)V"⟩, 7), (⟨"BackSeat$Reader", "readTerm", "(I)V"⟩, 7), (⟨"BackSeat$Reader", "readOne", "(I)V"⟩, 7), (⟨"BackSeat", "setForAll", "(II)I"⟩, 9)]
theorem lw_r1 : ∀ q ∈ lw_privs_1, lw_okq q := List.forall_mem_cons.mpr ⟨lw_p0, List.forall_mem_cons.mpr ⟨lw_p1, List.forall_mem_cons.mpr ⟨lw_p2, List.forall_mem_cons.mpr ⟨lw_p3, List.forall_mem_cons.mpr ⟨lw_p4, List.forall_mem_cons.mpr ⟨lw_p5, List.forall_mem_cons.mpr ⟨lw_p6, List.forall_mem_cons.mpr ⟨lw_p7, List.forall_mem_cons.mpr ⟨lw_p8, List.forall_mem_cons.mpr ⟨lw_p9, List.forall_mem_cons.mpr ⟨lw_p10, List.forall_mem_cons.mpr ⟨lw_p11, List.forall_mem_cons.mpr ⟨lw_p12, List.forall_mem_cons.mpr ⟨lw_p13, List.forall_mem_cons.mpr ⟨lw_p14, List.forall_mem_cons.mpr ⟨lw_p15, fun _ h => absurd h List.not_mem_nil⟩⟩⟩⟩⟩⟩⟩⟩⟩⟩⟩⟩⟩⟩⟩⟩
theorem lw_p16 : lw_okq (⟨"BackSeat$Ride", "sickIn", "(I)I"⟩, 7) := ⟨⟨by decide +kernel, by decide +kernel⟩, List.mem_of_getElem? (i := 129) (by decide +kernel), List.mem_of_getElem? (i := 583) (by decide +kernel), List.mem_of_getElem? (i := 584) (by decide +kernel)⟩
theorem lw_p17 : lw_okq (⟨"BackSeat$Ride", "noteSick", "(II)V"⟩, 7) := ⟨⟨by decide +kernel, by decide +kernel⟩, List.mem_of_getElem? (i := 129) (by decide +kernel), List.mem_of_getElem? (i := 588) (by decide +kernel), List.mem_of_getElem? (i := 589) (by decide +kernel)⟩
theorem lw_p18 : lw_okq (⟨"BackSeat", "dinMoved", "(II)I"⟩, 9) := ⟨⟨by decide +kernel, by decide +kernel⟩, List.mem_of_getElem? (i := 15) (by decide +kernel), List.mem_of_getElem? (i := 607) (by decide +kernel), List.mem_of_getElem? (i := 608) (by decide +kernel)⟩
theorem lw_p19 : lw_okq (⟨"BackSeat", "dinChanged", "(II)I"⟩, 9) := ⟨⟨by decide +kernel, by decide +kernel⟩, List.mem_of_getElem? (i := 15) (by decide +kernel), List.mem_of_getElem? (i := 626) (by decide +kernel), List.mem_of_getElem? (i := 627) (by decide +kernel)⟩
theorem lw_p20 : lw_okq (⟨"BackSeat", "sheetAt", "(I)LBackSeat$Sheet;"⟩, 9) := ⟨⟨by decide +kernel, by decide +kernel⟩, List.mem_of_getElem? (i := 15) (by decide +kernel), List.mem_of_getElem? (i := 649) (by decide +kernel), List.mem_of_getElem? (i := 650) (by decide +kernel)⟩
theorem lw_p21 : lw_okq (⟨"BackSeat$Hat", "isUnlike", "([I)Z"⟩, 6) := ⟨⟨by decide +kernel, by decide +kernel⟩, List.mem_of_getElem? (i := 159) (by decide +kernel), List.mem_of_getElem? (i := 667) (by decide +kernel), List.mem_of_getElem? (i := 668) (by decide +kernel)⟩
theorem lw_p22 : lw_okq (⟨"BackSeat$Hat", "isAllThere", "(LBackSeat$Coach;)Z"⟩, 6) := ⟨⟨by decide +kernel, by decide +kernel⟩, List.mem_of_getElem? (i := 159) (by decide +kernel), List.mem_of_getElem? (i := 672) (by decide +kernel), List.mem_of_getElem? (i := 673) (by decide +kernel)⟩
theorem lw_p23 : lw_okq (⟨"BackSeat$Hat", "isTold", "(I)Z"⟩, 6) := ⟨⟨by decide +kernel, by decide +kernel⟩, List.mem_of_getElem? (i := 159) (by decide +kernel), List.mem_of_getElem? (i := 678) (by decide +kernel), List.mem_of_getElem? (i := 679) (by decide +kernel)⟩
theorem lw_p24 : lw_okq (⟨"BackSeat$Hat", "seatAll", "(LBackSeat$Coach;)V"⟩, 6) := ⟨⟨by decide +kernel, by decide +kernel⟩, List.mem_of_getElem? (i := 159) (by decide +kernel), List.mem_of_getElem? (i := 686) (by decide +kernel), List.mem_of_getElem? (i := 687) (by decide +kernel)⟩
theorem lw_p25 : lw_okq (⟨"BackSeat$Hat", "digits", "()I"⟩, 6) := ⟨⟨by decide +kernel, by decide +kernel⟩, List.mem_of_getElem? (i := 159) (by decide +kernel), List.mem_of_getElem? (i := 692) (by decide +kernel), List.mem_of_getElem? (i := 693) (by decide +kernel)⟩
theorem lw_p26 : lw_okq (⟨"BackSeat$Hat", "nextOrder", "()Z"⟩, 6) := ⟨⟨by decide +kernel, by decide +kernel⟩, List.mem_of_getElem? (i := 159) (by decide +kernel), List.mem_of_getElem? (i := 696) (by decide +kernel), List.mem_of_getElem? (i := 697) (by decide +kernel)⟩
theorem lw_p27 : lw_okq (⟨"BackSeat$Hat", "swapPlaces", "(II)V"⟩, 6) := ⟨⟨by decide +kernel, by decide +kernel⟩, List.mem_of_getElem? (i := 159) (by decide +kernel), List.mem_of_getElem? (i := 700) (by decide +kernel), List.mem_of_getElem? (i := 701) (by decide +kernel)⟩
theorem lw_p28 : lw_okq (⟨"BackSeat", "sickMoved", "(III)I"⟩, 9) := ⟨⟨by decide +kernel, by decide +kernel⟩, List.mem_of_getElem? (i := 15) (by decide +kernel), List.mem_of_getElem? (i := 716) (by decide +kernel), List.mem_of_getElem? (i := 717) (by decide +kernel)⟩
theorem lw_p29 : lw_okq (⟨"BackSeat", "itemsTold", "(LBackSeat$Sheet;[III)I"⟩, 9) := ⟨⟨by decide +kernel, by decide +kernel⟩, List.mem_of_getElem? (i := 15) (by decide +kernel), List.mem_of_getElem? (i := 729) (by decide +kernel), List.mem_of_getElem? (i := 730) (by decide +kernel)⟩
theorem lw_p30 : lw_okq (⟨"BackSeat", "seatsTold", "(LBackSeat$Sheet;I)I"⟩, 9) := ⟨⟨by decide +kernel, by decide +kernel⟩, List.mem_of_getElem? (i := 15) (by decide +kernel), List.mem_of_getElem? (i := 738) (by decide +kernel), List.mem_of_getElem? (i := 739) (by decide +kernel)⟩
theorem lw_p31 : lw_okq (⟨"BackSeat", "textsTold", "(LBackSeat$Sheet;)I"⟩, 9) := ⟨⟨by decide +kernel, by decide +kernel⟩, List.mem_of_getElem? (i := 15) (by decide +kernel), List.mem_of_getElem? (i := 742) (by decide +kernel), List.mem_of_getElem? (i := 743) (by decide +kernel)⟩
def lw_privs_2 : List (MethodName × Nat) := [(⟨"BackSeat$Ride", "sickIn", "(I)I"⟩, 7), (⟨"BackSeat$Ride", "noteSick", "(II)V"⟩, 7), (⟨"BackSeat", "dinMoved", "(II)I"⟩, 9), (⟨"BackSeat", "dinChanged", "(II)I"⟩, 9), (⟨"BackSeat", "sheetAt", "(I)LBackSeat$Sheet;"⟩, 9), (⟨"BackSeat$Hat", "isUnlike", "([I)Z"⟩, 6), (⟨"BackSeat$Hat", "isAllThere", "(LBackSeat$Coach;)Z"⟩, 6), (⟨"BackSeat$Hat", "isTold", "(I)Z"⟩, 6), (⟨"BackSeat$Hat", "seatAll", "(LBackSeat$Coach;)V"⟩, 6), (⟨"BackSeat$Hat", "digits", "()I"⟩, 6), (⟨"BackSeat$Hat", "nextOrder", "()Z"⟩, 6), (⟨"BackSeat$Hat", "swapPlaces", "(II)V"⟩, 6), (⟨"BackSeat", "sickMoved", "(III)I"⟩, 9), (⟨"BackSeat", "itemsTold", "(LBackSeat$Sheet;[III)I"⟩, 9), (⟨"BackSeat", "seatsTold", "(LBackSeat$Sheet;I)I"⟩, 9), (⟨"BackSeat", "textsTold", "(LBackSeat$Sheet;)I"⟩, 9)]
theorem lw_r2 : ∀ q ∈ lw_privs_2, lw_okq q := List.forall_mem_cons.mpr ⟨lw_p16, List.forall_mem_cons.mpr ⟨lw_p17, List.forall_mem_cons.mpr ⟨lw_p18, List.forall_mem_cons.mpr ⟨lw_p19, List.forall_mem_cons.mpr ⟨lw_p20, List.forall_mem_cons.mpr ⟨lw_p21, List.forall_mem_cons.mpr ⟨lw_p22, List.forall_mem_cons.mpr ⟨lw_p23, List.forall_mem_cons.mpr ⟨lw_p24, List.forall_mem_cons.mpr ⟨lw_p25, List.forall_mem_cons.mpr ⟨lw_p26, List.forall_mem_cons.mpr ⟨lw_p27, List.forall_mem_cons.mpr ⟨lw_p28, List.forall_mem_cons.mpr ⟨lw_p29, List.forall_mem_cons.mpr ⟨lw_p30, List.forall_mem_cons.mpr ⟨lw_p31, fun _ h => absurd h List.not_mem_nil⟩⟩⟩⟩⟩⟩⟩⟩⟩⟩⟩⟩⟩⟩⟩⟩
theorem lw_p32 : lw_okq (⟨"BackSeat", "milesTold", "(LBackSeat$Sheet;)I"⟩, 9) := ⟨⟨by decide +kernel, by decide +kernel⟩, List.mem_of_getElem? (i := 15) (by decide +kernel), List.mem_of_getElem? (i := 746) (by decide +kernel), List.mem_of_getElem? (i := 747) (by decide +kernel)⟩
theorem lw_p33 : lw_okq (⟨"BackSeat", "leastMileTold", "(LBackSeat$Sheet;)I"⟩, 9) := ⟨⟨by decide +kernel, by decide +kernel⟩, List.mem_of_getElem? (i := 15) (by decide +kernel), List.mem_of_getElem? (i := 750) (by decide +kernel), List.mem_of_getElem? (i := 751) (by decide +kernel)⟩
theorem lw_p34 : lw_okq (⟨"BackSeatModel", "spell", "(IIIIIIIII)V"⟩, 52) := ⟨⟨by decide +kernel, by decide +kernel⟩, List.mem_of_getElem? (i := 835) (by decide +kernel), List.mem_of_getElem? (i := 841) (by decide +kernel), List.mem_of_getElem? (i := 842) (by decide +kernel)⟩
theorem lw_p35 : lw_okq (⟨"BackSeatModel", "isOne", "(I)Z"⟩, 52) := ⟨⟨by decide +kernel, by decide +kernel⟩, List.mem_of_getElem? (i := 835) (by decide +kernel), List.mem_of_getElem? (i := 1010) (by decide +kernel), List.mem_of_getElem? (i := 1011) (by decide +kernel)⟩
theorem lw_p36 : lw_okq (⟨"BackSeatModel", "isValue", "(III)Z"⟩, 52) := ⟨⟨by decide +kernel, by decide +kernel⟩, List.mem_of_getElem? (i := 835) (by decide +kernel), List.mem_of_getElem? (i := 1014) (by decide +kernel), List.mem_of_getElem? (i := 1015) (by decide +kernel)⟩
theorem lw_p37 : lw_okq (⟨"BackSeatModel", "noiseOf", "(I)I"⟩, 52) := ⟨⟨by decide +kernel, by decide +kernel⟩, List.mem_of_getElem? (i := 835) (by decide +kernel), List.mem_of_getElem? (i := 1025) (by decide +kernel), List.mem_of_getElem? (i := 1026) (by decide +kernel)⟩
theorem lw_p38 : lw_okq (⟨"BackSeatModel", "isWatched", "(I)Z"⟩, 52) := ⟨⟨by decide +kernel, by decide +kernel⟩, List.mem_of_getElem? (i := 835) (by decide +kernel), List.mem_of_getElem? (i := 1029) (by decide +kernel), List.mem_of_getElem? (i := 1030) (by decide +kernel)⟩
theorem lw_p39 : lw_okq (⟨"BackSeatModel", "neighbour", "(II)I"⟩, 52) := ⟨⟨by decide +kernel, by decide +kernel⟩, List.mem_of_getElem? (i := 835) (by decide +kernel), List.mem_of_getElem? (i := 1033) (by decide +kernel), List.mem_of_getElem? (i := 1034) (by decide +kernel)⟩
theorem lw_p40 : lw_okq (⟨"BackSeatModel", "isTeacher", "(I)Z"⟩, 52) := ⟨⟨by decide +kernel, by decide +kernel⟩, List.mem_of_getElem? (i := 835) (by decide +kernel), List.mem_of_getElem? (i := 1037) (by decide +kernel), List.mem_of_getElem? (i := 1038) (by decide +kernel)⟩
theorem lw_p41 : lw_okq (⟨"BackSeatModel", "asks", "(III)I"⟩, 52) := ⟨⟨by decide +kernel, by decide +kernel⟩, List.mem_of_getElem? (i := 835) (by decide +kernel), List.mem_of_getElem? (i := 1041) (by decide +kernel), List.mem_of_getElem? (i := 1042) (by decide +kernel)⟩
theorem lw_p42 : lw_okq (⟨"BackSeatModel", "besideOf", "(I)I"⟩, 52) := ⟨⟨by decide +kernel, by decide +kernel⟩, List.mem_of_getElem? (i := 835) (by decide +kernel), List.mem_of_getElem? (i := 1045) (by decide +kernel), List.mem_of_getElem? (i := 1046) (by decide +kernel)⟩
theorem lw_p43 : lw_okq (⟨"BackSeatModel", "hasFriend", "(I)Z"⟩, 52) := ⟨⟨by decide +kernel, by decide +kernel⟩, List.mem_of_getElem? (i := 835) (by decide +kernel), List.mem_of_getElem? (i := 1049) (by decide +kernel), List.mem_of_getElem? (i := 1050) (by decide +kernel)⟩
theorem lw_p44 : lw_okq (⟨"BackSeatModel", "read", "(II)I"⟩, 52) := ⟨⟨by decide +kernel, by decide +kernel⟩, List.mem_of_getElem? (i := 835) (by decide +kernel), List.mem_of_getElem? (i := 1053) (by decide +kernel), List.mem_of_getElem? (i := 1054) (by decide +kernel)⟩
theorem lw_p45 : lw_okq (⟨"BackSeatModel", "next", "()V"⟩, 52) := ⟨⟨by decide +kernel, by decide +kernel⟩, List.mem_of_getElem? (i := 835) (by decide +kernel), List.mem_of_getElem? (i := 1057) (by decide +kernel), List.mem_of_getElem? (i := 1058) (by decide +kernel)⟩
theorem lw_p46 : lw_okq (⟨"BackSeatModel", "byteAt", "(I)I"⟩, 52) := ⟨⟨by decide +kernel, by decide +kernel⟩, List.mem_of_getElem? (i := 835) (by decide +kernel), List.mem_of_getElem? (i := 1061) (by decide +kernel), List.mem_of_getElem? (i := 1062) (by decide +kernel)⟩
theorem lw_p47 : lw_okq (⟨"BackSeatModel", "isWord", "(IIIIIIII)Z"⟩, 52) := ⟨⟨by decide +kernel, by decide +kernel⟩, List.mem_of_getElem? (i := 835) (by decide +kernel), List.mem_of_getElem? (i := 1070) (by decide +kernel), List.mem_of_getElem? (i := 1071) (by decide +kernel)⟩
def lw_privs_3 : List (MethodName × Nat) := [(⟨"BackSeat", "milesTold", "(LBackSeat$Sheet;)I"⟩, 9), (⟨"BackSeat", "leastMileTold", "(LBackSeat$Sheet;)I"⟩, 9), (⟨"BackSeatModel", "spell", "(IIIIIIIII)V"⟩, 52), (⟨"BackSeatModel", "isOne", "(I)Z"⟩, 52), (⟨"BackSeatModel", "isValue", "(III)Z"⟩, 52), (⟨"BackSeatModel", "noiseOf", "(I)I"⟩, 52), (⟨"BackSeatModel", "isWatched", "(I)Z"⟩, 52), (⟨"BackSeatModel", "neighbour", "(II)I"⟩, 52), (⟨"BackSeatModel", "isTeacher", "(I)Z"⟩, 52), (⟨"BackSeatModel", "asks", "(III)I"⟩, 52), (⟨"BackSeatModel", "besideOf", "(I)I"⟩, 52), (⟨"BackSeatModel", "hasFriend", "(I)Z"⟩, 52), (⟨"BackSeatModel", "read", "(II)I"⟩, 52), (⟨"BackSeatModel", "next", "()V"⟩, 52), (⟨"BackSeatModel", "byteAt", "(I)I"⟩, 52), (⟨"BackSeatModel", "isWord", "(IIIIIIII)Z"⟩, 52)]
theorem lw_r3 : ∀ q ∈ lw_privs_3, lw_okq q := List.forall_mem_cons.mpr ⟨lw_p32, List.forall_mem_cons.mpr ⟨lw_p33, List.forall_mem_cons.mpr ⟨lw_p34, List.forall_mem_cons.mpr ⟨lw_p35, List.forall_mem_cons.mpr ⟨lw_p36, List.forall_mem_cons.mpr ⟨lw_p37, List.forall_mem_cons.mpr ⟨lw_p38, List.forall_mem_cons.mpr ⟨lw_p39, List.forall_mem_cons.mpr ⟨lw_p40, List.forall_mem_cons.mpr ⟨lw_p41, List.forall_mem_cons.mpr ⟨lw_p42, List.forall_mem_cons.mpr ⟨lw_p43, List.forall_mem_cons.mpr ⟨lw_p44, List.forall_mem_cons.mpr ⟨lw_p45, List.forall_mem_cons.mpr ⟨lw_p46, List.forall_mem_cons.mpr ⟨lw_p47, fun _ h => absurd h List.not_mem_nil⟩⟩⟩⟩⟩⟩⟩⟩⟩⟩⟩⟩⟩⟩⟩⟩
theorem lw_p48 : lw_okq (⟨"BackSeatModel", "isLetter", "(II)Z"⟩, 52) := ⟨⟨by decide +kernel, by decide +kernel⟩, List.mem_of_getElem? (i := 835) (by decide +kernel), List.mem_of_getElem? (i := 1074) (by decide +kernel), List.mem_of_getElem? (i := 1075) (by decide +kernel)⟩
theorem lw_p49 : lw_okq (⟨"BackSeatModel", "part", "(Z)I"⟩, 52) := ⟨⟨by decide +kernel, by decide +kernel⟩, List.mem_of_getElem? (i := 835) (by decide +kernel), List.mem_of_getElem? (i := 1078) (by decide +kernel), List.mem_of_getElem? (i := 1079) (by decide +kernel)⟩
theorem lw_p50 : lw_okq (⟨"BackSeatModel", "fail", "()V"⟩, 52) := ⟨⟨by decide +kernel, by decide +kernel⟩, List.mem_of_getElem? (i := 835) (by decide +kernel), List.mem_of_getElem? (i := 1082) (by decide +kernel), List.mem_of_getElem? (i := 1083) (by decide +kernel)⟩
theorem lw_p51 : lw_okq (⟨"BackSeatModel", "either", "()I"⟩, 52) := ⟨⟨by decide +kernel, by decide +kernel⟩, List.mem_of_getElem? (i := 835) (by decide +kernel), List.mem_of_getElem? (i := 1086) (by decide +kernel), List.mem_of_getElem? (i := 1087) (by decide +kernel)⟩
theorem lw_p52 : lw_okq (⟨"BackSeatModel", "both", "()I"⟩, 52) := ⟨⟨by decide +kernel, by decide +kernel⟩, List.mem_of_getElem? (i := 835) (by decide +kernel), List.mem_of_getElem? (i := 1090) (by decide +kernel), List.mem_of_getElem? (i := 1091) (by decide +kernel)⟩
theorem lw_p53 : lw_okq (⟨"BackSeatModel", "not", "()I"⟩, 52) := ⟨⟨by decide +kernel, by decide +kernel⟩, List.mem_of_getElem? (i := 835) (by decide +kernel), List.mem_of_getElem? (i := 1094) (by decide +kernel), List.mem_of_getElem? (i := 1095) (by decide +kernel)⟩
theorem lw_p54 : lw_okq (⟨"BackSeatModel", "opens", "()Z"⟩, 52) := ⟨⟨by decide +kernel, by decide +kernel⟩, List.mem_of_getElem? (i := 835) (by decide +kernel), List.mem_of_getElem? (i := 1098) (by decide +kernel), List.mem_of_getElem? (i := 1099) (by decide +kernel)⟩
theorem lw_p55 : lw_okq (⟨"BackSeatModel", "added", "()I"⟩, 52) := ⟨⟨by decide +kernel, by decide +kernel⟩, List.mem_of_getElem? (i := 835) (by decide +kernel), List.mem_of_getElem? (i := 1102) (by decide +kernel), List.mem_of_getElem? (i := 1103) (by decide +kernel)⟩
theorem lw_p56 : lw_okq (⟨"BackSeatModel", "term", "()I"⟩, 52) := ⟨⟨by decide +kernel, by decide +kernel⟩, List.mem_of_getElem? (i := 835) (by decide +kernel), List.mem_of_getElem? (i := 1106) (by decide +kernel), List.mem_of_getElem? (i := 1107) (by decide +kernel)⟩
theorem lw_p57 : lw_okq (⟨"BackSeatModel", "atom", "()I"⟩, 52) := ⟨⟨by decide +kernel, by decide +kernel⟩, List.mem_of_getElem? (i := 835) (by decide +kernel), List.mem_of_getElem? (i := 1110) (by decide +kernel), List.mem_of_getElem? (i := 1111) (by decide +kernel)⟩
theorem lw_p58 : lw_okq (⟨"BackSeatModel", "isSign", "(I)Z"⟩, 52) := ⟨⟨by decide +kernel, by decide +kernel⟩, List.mem_of_getElem? (i := 835) (by decide +kernel), List.mem_of_getElem? (i := 1114) (by decide +kernel), List.mem_of_getElem? (i := 1115) (by decide +kernel)⟩
theorem lw_p59 : lw_okq (⟨"BackSeatModel", "name", "()I"⟩, 52) := ⟨⟨by decide +kernel, by decide +kernel⟩, List.mem_of_getElem? (i := 835) (by decide +kernel), List.mem_of_getElem? (i := 1118) (by decide +kernel), List.mem_of_getElem? (i := 1119) (by decide +kernel)⟩
theorem lw_p60 : lw_okq (⟨"BackSeatModel", "queasyOf", "(II)I"⟩, 52) := ⟨⟨by decide +kernel, by decide +kernel⟩, List.mem_of_getElem? (i := 835) (by decide +kernel), List.mem_of_getElem? (i := 1127) (by decide +kernel), List.mem_of_getElem? (i := 1128) (by decide +kernel)⟩
theorem lw_p61 : lw_okq (⟨"BackSeatModel", "lays", "(III)V"⟩, 52) := ⟨⟨by decide +kernel, by decide +kernel⟩, List.mem_of_getElem? (i := 835) (by decide +kernel), List.mem_of_getElem? (i := 1131) (by decide +kernel), List.mem_of_getElem? (i := 1132) (by decide +kernel)⟩
theorem lw_p62 : lw_okq (⟨"BackSeatModel", "seats", "(II)V"⟩, 52) := ⟨⟨by decide +kernel, by decide +kernel⟩, List.mem_of_getElem? (i := 835) (by decide +kernel), List.mem_of_getElem? (i := 1148) (by decide +kernel), List.mem_of_getElem? (i := 1149) (by decide +kernel)⟩
theorem lw_p63 : lw_okq (⟨"BackSeatModel", "din", "()I"⟩, 52) := ⟨⟨by decide +kernel, by decide +kernel⟩, List.mem_of_getElem? (i := 835) (by decide +kernel), List.mem_of_getElem? (i := 1176) (by decide +kernel), List.mem_of_getElem? (i := 1177) (by decide +kernel)⟩
def lw_privs_4 : List (MethodName × Nat) := [(⟨"BackSeatModel", "isLetter", "(II)Z"⟩, 52), (⟨"BackSeatModel", "part", "(Z)I"⟩, 52), (⟨"BackSeatModel", "fail", "()V"⟩, 52), (⟨"BackSeatModel", "either", "()I"⟩, 52), (⟨"BackSeatModel", "both", "()I"⟩, 52), (⟨"BackSeatModel", "not", "()I"⟩, 52), (⟨"BackSeatModel", "opens", "()Z"⟩, 52), (⟨"BackSeatModel", "added", "()I"⟩, 52), (⟨"BackSeatModel", "term", "()I"⟩, 52), (⟨"BackSeatModel", "atom", "()I"⟩, 52), (⟨"BackSeatModel", "isSign", "(I)Z"⟩, 52), (⟨"BackSeatModel", "name", "()I"⟩, 52), (⟨"BackSeatModel", "queasyOf", "(II)I"⟩, 52), (⟨"BackSeatModel", "lays", "(III)V"⟩, 52), (⟨"BackSeatModel", "seats", "(II)V"⟩, 52), (⟨"BackSeatModel", "din", "()I"⟩, 52)]
theorem lw_r4 : ∀ q ∈ lw_privs_4, lw_okq q := List.forall_mem_cons.mpr ⟨lw_p48, List.forall_mem_cons.mpr ⟨lw_p49, List.forall_mem_cons.mpr ⟨lw_p50, List.forall_mem_cons.mpr ⟨lw_p51, List.forall_mem_cons.mpr ⟨lw_p52, List.forall_mem_cons.mpr ⟨lw_p53, List.forall_mem_cons.mpr ⟨lw_p54, List.forall_mem_cons.mpr ⟨lw_p55, List.forall_mem_cons.mpr ⟨lw_p56, List.forall_mem_cons.mpr ⟨lw_p57, List.forall_mem_cons.mpr ⟨lw_p58, List.forall_mem_cons.mpr ⟨lw_p59, List.forall_mem_cons.mpr ⟨lw_p60, List.forall_mem_cons.mpr ⟨lw_p61, List.forall_mem_cons.mpr ⟨lw_p62, List.forall_mem_cons.mpr ⟨lw_p63, fun _ h => absurd h List.not_mem_nil⟩⟩⟩⟩⟩⟩⟩⟩⟩⟩⟩⟩⟩⟩⟩⟩
theorem lw_p64 : lw_okq (⟨"BackSeatModel", "joy", "()I"⟩, 52) := ⟨⟨by decide +kernel, by decide +kernel⟩, List.mem_of_getElem? (i := 835) (by decide +kernel), List.mem_of_getElem? (i := 1180) (by decide +kernel), List.mem_of_getElem? (i := 1181) (by decide +kernel)⟩
theorem lw_p65 : lw_okq (⟨"BackSeatModel", "gladOf", "(I)I"⟩, 52) := ⟨⟨by decide +kernel, by decide +kernel⟩, List.mem_of_getElem? (i := 835) (by decide +kernel), List.mem_of_getElem? (i := 1184) (by decide +kernel), List.mem_of_getElem? (i := 1185) (by decide +kernel)⟩
theorem lw_p66 : lw_okq (⟨"BackSeatModel", "rides", "(II)V"⟩, 52) := ⟨⟨by decide +kernel, by decide +kernel⟩, List.mem_of_getElem? (i := 835) (by decide +kernel), List.mem_of_getElem? (i := 1193) (by decide +kernel), List.mem_of_getElem? (i := 1194) (by decide +kernel)⟩
theorem lw_p67 : lw_okq (⟨"BackSeatModel", "looksAt", "(II)V"⟩, 52) := ⟨⟨by decide +kernel, by decide +kernel⟩, List.mem_of_getElem? (i := 835) (by decide +kernel), List.mem_of_getElem? (i := 1205) (by decide +kernel), List.mem_of_getElem? (i := 1206) (by decide +kernel)⟩
theorem lw_p68 : lw_okq (⟨"BackSeatModel", "swaps", "(II)V"⟩, 52) := ⟨⟨by decide +kernel, by decide +kernel⟩, List.mem_of_getElem? (i := 835) (by decide +kernel), List.mem_of_getElem? (i := 1209) (by decide +kernel), List.mem_of_getElem? (i := 1210) (by decide +kernel)⟩
theorem lw_p69 : lw_okq (⟨"BackSeatModel", "firstTeacher", "()I"⟩, 52) := ⟨⟨by decide +kernel, by decide +kernel⟩, List.mem_of_getElem? (i := 835) (by decide +kernel), List.mem_of_getElem? (i := 1217) (by decide +kernel), List.mem_of_getElem? (i := 1218) (by decide +kernel)⟩
theorem lw_p70 : lw_okq (⟨"BackSeatModel", "isHat", "(I)Z"⟩, 52) := ⟨⟨by decide +kernel, by decide +kernel⟩, List.mem_of_getElem? (i := 835) (by decide +kernel), List.mem_of_getElem? (i := 1228) (by decide +kernel), List.mem_of_getElem? (i := 1229) (by decide +kernel)⟩
theorem lw_p71 : lw_okq (⟨"BackSeatModel", "stands", "()V"⟩, 52) := ⟨⟨by decide +kernel, by decide +kernel⟩, List.mem_of_getElem? (i := 835) (by decide +kernel), List.mem_of_getElem? (i := 1233) (by decide +kernel), List.mem_of_getElem? (i := 1234) (by decide +kernel)⟩
theorem lw_p72 : lw_okq (⟨"BackSeatModel", "seeks", "(IIII)V"⟩, 52) := ⟨⟨by decide +kernel, by decide +kernel⟩, List.mem_of_getElem? (i := 835) (by decide +kernel), List.mem_of_getElem? (i := 1237) (by decide +kernel), List.mem_of_getElem? (i := 1238) (by decide +kernel)⟩
theorem lw_p73 : lw_okq (⟨"BackSeatModel", "sitsAgain", "()V"⟩, 52) := ⟨⟨by decide +kernel, by decide +kernel⟩, List.mem_of_getElem? (i := 835) (by decide +kernel), List.mem_of_getElem? (i := 1241) (by decide +kernel), List.mem_of_getElem? (i := 1242) (by decide +kernel)⟩
theorem lw_p74 : lw_okq (⟨"BackSeatModel", "unlike", "(I)I"⟩, 52) := ⟨⟨by decide +kernel, by decide +kernel⟩, List.mem_of_getElem? (i := 835) (by decide +kernel), List.mem_of_getElem? (i := 1258) (by decide +kernel), List.mem_of_getElem? (i := 1259) (by decide +kernel)⟩
theorem lw_p75 : lw_okq (⟨"BackSeatModel", "seatsBy", "(II)I"⟩, 52) := ⟨⟨by decide +kernel, by decide +kernel⟩, List.mem_of_getElem? (i := 835) (by decide +kernel), List.mem_of_getElem? (i := 1262) (by decide +kernel), List.mem_of_getElem? (i := 1263) (by decide +kernel)⟩
theorem lw_p76 : lw_okq (⟨"BackSeatModel", "dinBy", "(I)I"⟩, 52) := ⟨⟨by decide +kernel, by decide +kernel⟩, List.mem_of_getElem? (i := 835) (by decide +kernel), List.mem_of_getElem? (i := 1279) (by decide +kernel), List.mem_of_getElem? (i := 1280) (by decide +kernel)⟩
def lw_privs_5 : List (MethodName × Nat) := [(⟨"BackSeatModel", "joy", "()I"⟩, 52), (⟨"BackSeatModel", "gladOf", "(I)I"⟩, 52), (⟨"BackSeatModel", "rides", "(II)V"⟩, 52), (⟨"BackSeatModel", "looksAt", "(II)V"⟩, 52), (⟨"BackSeatModel", "swaps", "(II)V"⟩, 52), (⟨"BackSeatModel", "firstTeacher", "()I"⟩, 52), (⟨"BackSeatModel", "isHat", "(I)Z"⟩, 52), (⟨"BackSeatModel", "stands", "()V"⟩, 52), (⟨"BackSeatModel", "seeks", "(IIII)V"⟩, 52), (⟨"BackSeatModel", "sitsAgain", "()V"⟩, 52), (⟨"BackSeatModel", "unlike", "(I)I"⟩, 52), (⟨"BackSeatModel", "seatsBy", "(II)I"⟩, 52), (⟨"BackSeatModel", "dinBy", "(I)I"⟩, 52)]
theorem lw_r5 : ∀ q ∈ lw_privs_5, lw_okq q := List.forall_mem_cons.mpr ⟨lw_p64, List.forall_mem_cons.mpr ⟨lw_p65, List.forall_mem_cons.mpr ⟨lw_p66, List.forall_mem_cons.mpr ⟨lw_p67, List.forall_mem_cons.mpr ⟨lw_p68, List.forall_mem_cons.mpr ⟨lw_p69, List.forall_mem_cons.mpr ⟨lw_p70, List.forall_mem_cons.mpr ⟨lw_p71, List.forall_mem_cons.mpr ⟨lw_p72, List.forall_mem_cons.mpr ⟨lw_p73, List.forall_mem_cons.mpr ⟨lw_p74, List.forall_mem_cons.mpr ⟨lw_p75, List.forall_mem_cons.mpr ⟨lw_p76, fun _ h => absurd h List.not_mem_nil⟩⟩⟩⟩⟩⟩⟩⟩⟩⟩⟩⟩⟩
def lw_privs : List (MethodName × Nat) := lw_privs_1 ++ (lw_privs_2 ++ (lw_privs_3 ++ (lw_privs_4 ++ (lw_privs_5))))
def lw_tbl : List Cond := k2_sels lw_privs ++ tables_1
theorem lw_privs_ok : ∀ q ∈ lw_privs, lw_okq q := by
  show ∀ q ∈ lw_privs_1 ++ (lw_privs_2 ++ (lw_privs_3 ++ (lw_privs_4 ++ (lw_privs_5)))), lw_okq q
  exact List.forall_mem_append.mpr ⟨lw_r1, List.forall_mem_append.mpr ⟨lw_r2, List.forall_mem_append.mpr ⟨lw_r3, List.forall_mem_append.mpr ⟨lw_r4, lw_r5⟩⟩⟩⟩
-- ===== end of PART A; then your names; then what follows =====
/-! ===== BEGIN printed: names, fields, word lists, decode rows ===== -/
def RX0 : String := "BackSeat$Coach"
def TX0 : u_T := fun k => match k with
  | 0 => ("BackSeat$Coach", "texts", "LBackSeat$Texts;", true)
  | 1 => ("BackSeat$Coach", "mile", "I", false)
  | 2 => ("BackSeat$Coach", "limit", "I", false)
  | 3 => ("BackSeat$Coach", "rule", "I", false)
  | 4 => ("BackSeat$Coach", "size", "I", false)
  | 5 => ("BackSeat$Coach", "kinds", "[I", true)
  | 6 => ("BackSeat$Coach", "numbers", "[I", true)
  | 7 => ("BackSeat$Coach", "friends", "[I", true)
  | 8 => ("BackSeat$Coach", "seats", "[I", true)
  | 9 => ("BackSeat$Coach", "sitters", "[I", true)
  | _ => ("BackSeat$Coach", "facts", "[I", true)
def tyX0 : Nat → FieldType := fun k => match k with
  | 0 => .object "BackSeat$Texts"
  | 1 => .int
  | 2 => .int
  | 3 => .int
  | 4 => .int
  | 5 => .array .int
  | 6 => .array .int
  | 7 => .array .int
  | 8 => .array .int
  | 9 => .array .int
  | _ => .array .int
abbrev wsX00 : List Cond := u_ws RX0 TX0 11
theorem nmX0 : ∀ a, a < 11 → ∀ b, b < 11 → a ≠ b → (TX0 a).2.1 ≠ (TX0 b).2.1 := by decide +kernel
theorem tyX0_ok : ∀ k, k < 11 → parseFieldDescriptor (TX0 k).2.2.1 = some (tyX0 k) := by decide +kernel
abbrev cX0_init : ByteArray := prog_2_method_1_code
def yX0_init : MethodName := ⟨RX0, "<init>", "(LBackSeat$Texts;)V"⟩
abbrev cX0_take : ByteArray := prog_2_method_2_code
def yX0_take : MethodName := ⟨RX0, "take", "(LBackSeat$Coach;)V"⟩
abbrev cX0_has : ByteArray := prog_2_method_3_code
def yX0_has : MethodName := ⟨RX0, "has", "(I)Z"⟩
abbrev cX0_join : ByteArray := prog_2_method_4_code
def yX0_join : MethodName := ⟨RX0, "join", "(II)I"⟩
abbrev cX0_kindOf : ByteArray := prog_2_method_5_code
def yX0_kindOf : MethodName := ⟨RX0, "kindOf", "(I)I"⟩
abbrev cX0_numberOf : ByteArray := prog_2_method_6_code
def yX0_numberOf : MethodName := ⟨RX0, "numberOf", "(I)I"⟩
abbrev cX0_friendOf : ByteArray := prog_2_method_7_code
def yX0_friendOf : MethodName := ⟨RX0, "friendOf", "(I)I"⟩
abbrev cX0_seatOf : ByteArray := prog_2_method_8_code
def yX0_seatOf : MethodName := ⟨RX0, "seatOf", "(I)I"⟩
abbrev cX0_sits : ByteArray := prog_2_method_9_code
def yX0_sits : MethodName := ⟨RX0, "sits", "(I)Z"⟩
abbrev cX0_sitterAt : ByteArray := prog_2_method_10_code
def yX0_sitterAt : MethodName := ⟨RX0, "sitterAt", "(I)I"⟩
abbrev cX0_isOpen : ByteArray := prog_2_method_11_code
def yX0_isOpen : MethodName := ⟨RX0, "isOpen", "(II)Z"⟩
abbrev cX0_move : ByteArray := prog_2_method_12_code
def yX0_move : MethodName := ⟨RX0, "move", "(II)V"⟩
abbrev cX0_exchange : ByteArray := prog_2_method_13_code
def yX0_exchange : MethodName := ⟨RX0, "exchange", "(II)V"⟩
abbrev cX0_firstFreeFrom : ByteArray := prog_2_method_14_code
def yX0_firstFreeFrom : MethodName := ⟨RX0, "firstFreeFrom", "(I)I"⟩
abbrev cX0_firstFreeInFront : ByteArray := prog_2_method_15_code
def yX0_firstFreeInFront : MethodName := ⟨RX0, "firstFreeInFront", "()I"⟩
abbrev cX0_firstTeacher : ByteArray := prog_2_method_16_code
def yX0_firstTeacher : MethodName := ⟨RX0, "firstTeacher", "()I"⟩
abbrev cX0_areBeside : ByteArray := prog_2_method_17_code
def yX0_areBeside : MethodName := ⟨RX0, "areBeside", "(II)Z"⟩
abbrev cX0_neighbours : ByteArray := prog_2_method_18_code
def yX0_neighbours : MethodName := ⟨RX0, "neighbours", "(I)I"⟩
abbrev cX0_isWatched : ByteArray := prog_2_method_19_code
def yX0_isWatched : MethodName := ⟨RX0, "isWatched", "(I)Z"⟩
abbrev cX0_isTeacher : ByteArray := prog_2_method_20_code
def yX0_isTeacher : MethodName := ⟨RX0, "isTeacher", "(I)Z"⟩
abbrev cX0_telling : ByteArray := prog_2_method_21_code
def yX0_telling : MethodName := ⟨RX0, "telling", "(III)I"⟩
abbrev cX0_noise : ByteArray := prog_2_method_22_code
def yX0_noise : MethodName := ⟨RX0, "noise", "(I)I"⟩
abbrev cX0_queasy : ByteArray := prog_2_method_23_code
def yX0_queasy : MethodName := ⟨RX0, "queasy", "(II)I"⟩
abbrev cX0_glad : ByteArray := prog_2_method_24_code
def yX0_glad : MethodName := ⟨RX0, "glad", "(I)I"⟩
abbrev cX0_din : ByteArray := prog_2_method_25_code
def yX0_din : MethodName := ⟨RX0, "din", "()I"⟩
abbrev cX0_joy : ByteArray := prog_2_method_26_code
def yX0_joy : MethodName := ⟨RX0, "joy", "()I"⟩
abbrev cX0_sitting : ByteArray := prog_2_method_27_code
def yX0_sitting : MethodName := ⟨RX0, "sitting", "()I"⟩
abbrev cX0_alone : ByteArray := prog_2_method_28_code
def yX0_alone : MethodName := ⟨RX0, "alone", "()I"⟩
abbrev cX0_otherwise : ByteArray := prog_2_method_29_code
def yX0_otherwise : MethodName := ⟨RX0, "otherwise", "(LBackSeat$Sheet;)I"⟩
def RX1 : String := "BackSeat$Hat"
def TX1 : u_T := fun k => match k with
  | 0 => ("BackSeat$Hat", "told", "[I", true)
  | 1 => ("BackSeat$Hat", "seats", "[I", true)
  | 2 => ("BackSeat$Hat", "order", "[I", true)
  | 3 => ("BackSeat$Hat", "size", "I", false)
  | 4 => ("BackSeat$Hat", "bestJoy", "I", false)
  | _ => ("BackSeat$Hat", "bestDigits", "I", false)
def tyX1 : Nat → FieldType := fun k => match k with
  | 0 => .array .int
  | 1 => .array .int
  | 2 => .array .int
  | 3 => .int
  | 4 => .int
  | _ => .int
abbrev wsX10 : List Cond := u_ws RX1 TX1 6
theorem nmX1 : ∀ a, a < 6 → ∀ b, b < 6 → a ≠ b → (TX1 a).2.1 ≠ (TX1 b).2.1 := by decide +kernel
theorem tyX1_ok : ∀ k, k < 6 → parseFieldDescriptor (TX1 k).2.2.1 = some (tyX1 k) := by decide +kernel
abbrev cX1_init : ByteArray := prog_3_method_1_code
def yX1_init : MethodName := ⟨RX1, "<init>", "()V"⟩
abbrev cX1_takes : ByteArray := prog_3_method_2_code
def yX1_takes : MethodName := ⟨RX1, "takes", "(LBackSeat$Sheet;LBackSeat$Coach;)Z"⟩
abbrev cX1_isUnlike : ByteArray := prog_3_method_3_code
def yX1_isUnlike : MethodName := ⟨RX1, "isUnlike", "([I)Z"⟩
abbrev cX1_isAllThere : ByteArray := prog_3_method_4_code
def yX1_isAllThere : MethodName := ⟨RX1, "isAllThere", "(LBackSeat$Coach;)Z"⟩
abbrev cX1_isTold : ByteArray := prog_3_method_5_code
def yX1_isTold : MethodName := ⟨RX1, "isTold", "(I)Z"⟩
abbrev cX1_seek : ByteArray := prog_3_method_6_code
def yX1_seek : MethodName := ⟨RX1, "seek", "(LBackSeat$Coach;)V"⟩
abbrev cX1_seatAll : ByteArray := prog_3_method_7_code
def yX1_seatAll : MethodName := ⟨RX1, "seatAll", "(LBackSeat$Coach;)V"⟩
abbrev cX1_digits : ByteArray := prog_3_method_8_code
def yX1_digits : MethodName := ⟨RX1, "digits", "()I"⟩
abbrev cX1_nextOrder : ByteArray := prog_3_method_9_code
def yX1_nextOrder : MethodName := ⟨RX1, "nextOrder", "()Z"⟩
abbrev cX1_swapPlaces : ByteArray := prog_3_method_10_code
def yX1_swapPlaces : MethodName := ⟨RX1, "swapPlaces", "(II)V"⟩
def RX2 : String := "BackSeat$Reader"
def TX2 : u_T := fun k => match k with
  | 0 => ("BackSeat$Reader", "texts", "LBackSeat$Texts;", true)
  | 1 => ("BackSeat$Reader", "tape", "[I", true)
  | 2 => ("BackSeat$Reader", "size", "I", false)
  | 3 => ("BackSeat$Reader", "place", "I", false)
  | 4 => ("BackSeat$Reader", "next", "I", false)
  | 5 => ("BackSeat$Reader", "token", "I", false)
  | _ => ("BackSeat$Reader", "fault", "I", false)
def tyX2 : Nat → FieldType := fun k => match k with
  | 0 => .object "BackSeat$Texts"
  | 1 => .array .int
  | 2 => .int
  | 3 => .int
  | 4 => .int
  | 5 => .int
  | _ => .int
abbrev wsX20 : List Cond := u_ws RX2 TX2 7
theorem nmX2 : ∀ a, a < 7 → ∀ b, b < 7 → a ≠ b → (TX2 a).2.1 ≠ (TX2 b).2.1 := by decide +kernel
theorem tyX2_ok : ∀ k, k < 7 → parseFieldDescriptor (TX2 k).2.2.1 = some (tyX2 k) := by decide +kernel
abbrev cX2_init : ByteArray := prog_4_method_1_code
def yX2_init : MethodName := ⟨RX2, "<init>", "(LBackSeat$Texts;)V"⟩
abbrev cX2_append : ByteArray := prog_4_method_2_code
def yX2_append : MethodName := ⟨RX2, "append", "(I)I"⟩
abbrev cX2_read : ByteArray := prog_4_method_3_code
def yX2_read : MethodName := ⟨RX2, "read", "()I"⟩
abbrev cX2_readOr : ByteArray := prog_4_method_4_code
def yX2_readOr : MethodName := ⟨RX2, "readOr", "(I)V"⟩
abbrev cX2_readAnd : ByteArray := prog_4_method_5_code
def yX2_readAnd : MethodName := ⟨RX2, "readAnd", "(I)V"⟩
abbrev cX2_readNot : ByteArray := prog_4_method_6_code
def yX2_readNot : MethodName := ⟨RX2, "readNot", "(I)V"⟩
abbrev cX2_readSum : ByteArray := prog_4_method_7_code
def yX2_readSum : MethodName := ⟨RX2, "readSum", "(I)V"⟩
abbrev cX2_readTerm : ByteArray := prog_4_method_8_code
def yX2_readTerm : MethodName := ⟨RX2, "readTerm", "(I)V"⟩
abbrev cX2_readOne : ByteArray := prog_4_method_9_code
def yX2_readOne : MethodName := ⟨RX2, "readOne", "(I)V"⟩
abbrev cX2_opens : ByteArray := prog_4_method_10_code
def yX2_opens : MethodName := ⟨RX2, "opens", "(I)Z"⟩
abbrev cX2_expect : ByteArray := prog_4_method_11_code
def yX2_expect : MethodName := ⟨RX2, "expect", "(I)V"⟩
abbrev cX2_fail : ByteArray := prog_4_method_12_code
def yX2_fail : MethodName := ⟨RX2, "fail", "()V"⟩
abbrev cX2_advance : ByteArray := prog_4_method_13_code
def yX2_advance : MethodName := ⟨RX2, "advance", "()V"⟩
abbrev cX2_advanceWord : ByteArray := prog_4_method_14_code
def yX2_advanceWord : MethodName := ⟨RX2, "advanceWord", "()V"⟩
abbrev cX2_isWord : ByteArray := prog_4_method_15_code
def yX2_isWord : MethodName := ⟨RX2, "isWord", "(Ljava/lang/String;)Z"⟩
abbrev cX2_spelling : ByteArray := prog_4_method_16_code
def yX2_spelling : MethodName := ⟨RX2, "spelling", "(I)Ljava/lang/String;"⟩
abbrev cX2_advanceNumber : ByteArray := prog_4_method_17_code
def yX2_advanceNumber : MethodName := ⟨RX2, "advanceNumber", "()V"⟩
abbrev cX2_advanceSign : ByteArray := prog_4_method_18_code
def yX2_advanceSign : MethodName := ⟨RX2, "advanceSign", "(I)V"⟩
abbrev cX2_byteAt : ByteArray := prog_4_method_19_code
def yX2_byteAt : MethodName := ⟨RX2, "byteAt", "(I)I"⟩
abbrev cX2_isBlank : ByteArray := prog_4_method_20_code
def yX2_isBlank : MethodName := ⟨RX2, "isBlank", "(I)Z"⟩
abbrev cX2_isLetter : ByteArray := prog_4_method_21_code
def yX2_isLetter : MethodName := ⟨RX2, "isLetter", "(I)Z"⟩
abbrev cX2_isDigit : ByteArray := prog_4_method_22_code
def yX2_isDigit : MethodName := ⟨RX2, "isDigit", "(I)Z"⟩
def RX3 : String := "BackSeat$Ride"
def TX3 : u_T := fun k => match k with
  | 0 => ("BackSeat$Ride", "queasy", "[I", true)
  | 1 => ("BackSeat$Ride", "has", "[I", true)
  | 2 => ("BackSeat$Ride", "firsts", "[I", true)
  | 3 => ("BackSeat$Ride", "often", "[I", true)
  | 4 => ("BackSeat$Ride", "miles", "I", false)
  | 5 => ("BackSeat$Ride", "size", "I", false)
  | _ => ("BackSeat$Ride", "limit", "I", false)
def tyX3 : Nat → FieldType := fun k => match k with
  | 0 => .array .int
  | 1 => .array .int
  | 2 => .array .int
  | 3 => .array .int
  | 4 => .int
  | 5 => .int
  | _ => .int
abbrev wsX30 : List Cond := u_ws RX3 TX3 7
theorem nmX3 : ∀ a, a < 7 → ∀ b, b < 7 → a ≠ b → (TX3 a).2.1 ≠ (TX3 b).2.1 := by decide +kernel
theorem tyX3_ok : ∀ k, k < 7 → parseFieldDescriptor (TX3 k).2.2.1 = some (tyX3 k) := by decide +kernel
abbrev cX3_init : ByteArray := prog_5_method_1_code
def yX3_init : MethodName := ⟨RX3, "<init>", "()V"⟩
abbrev cX3_plan : ByteArray := prog_5_method_2_code
def yX3_plan : MethodName := ⟨RX3, "plan", "(LBackSeat$Coach;I)V"⟩
abbrev cX3_sick : ByteArray := prog_5_method_3_code
def yX3_sick : MethodName := ⟨RX3, "sick", "(I)I"⟩
abbrev cX3_sickIn : ByteArray := prog_5_method_4_code
def yX3_sickIn : MethodName := ⟨RX3, "sickIn", "(I)I"⟩
abbrev cX3_noteSick : ByteArray := prog_5_method_5_code
def yX3_noteSick : MethodName := ⟨RX3, "noteSick", "(II)V"⟩
abbrev cX3_firstSick : ByteArray := prog_5_method_6_code
def yX3_firstSick : MethodName := ⟨RX3, "firstSick", "()I"⟩
def RX4 : String := "BackSeat$Sheet"
def TX4 : u_T := fun k => match k with
  | 0 => ("BackSeat$Sheet", "sort", "I", false)
  | 1 => ("BackSeat$Sheet", "size", "I", false)
  | _ => ("BackSeat$Sheet", "items", "[I", true)
def tyX4 : Nat → FieldType := fun k => match k with
  | 0 => .int
  | 1 => .int
  | _ => .array .int
abbrev wsX40 : List Cond := u_ws RX4 TX4 3
theorem nmX4 : ∀ a, a < 3 → ∀ b, b < 3 → a ≠ b → (TX4 a).2.1 ≠ (TX4 b).2.1 := by decide +kernel
theorem tyX4_ok : ∀ k, k < 3 → parseFieldDescriptor (TX4 k).2.2.1 = some (tyX4 k) := by decide +kernel
abbrev cX4_init : ByteArray := prog_6_method_1_code
def yX4_init : MethodName := ⟨RX4, "<init>", "()V"⟩
abbrev cX4_become : ByteArray := prog_6_method_2_code
def yX4_become : MethodName := ⟨RX4, "become", "(II)V"⟩
abbrev cX4_isMissing : ByteArray := prog_6_method_3_code
def yX4_isMissing : MethodName := ⟨RX4, "isMissing", "()Z"⟩
abbrev cX4_has : ByteArray := prog_6_method_4_code
def yX4_has : MethodName := ⟨RX4, "has", "(I)Z"⟩
abbrev cX4_hasRun : ByteArray := prog_6_method_5_code
def yX4_hasRun : MethodName := ⟨RX4, "hasRun", "(II)Z"⟩
abbrev cX4_item : ByteArray := prog_6_method_6_code
def yX4_item : MethodName := ⟨RX4, "item", "(I)I"⟩
abbrev cX4_write : ByteArray := prog_6_method_7_code
def yX4_write : MethodName := ⟨RX4, "write", "(II)V"⟩
def RX5 : String := "BackSeat$Texts"
def TX5 : u_T := fun k => match k with
  | 0 => ("BackSeat$Texts", "codes", "[I", true)
  | 1 => ("BackSeat$Texts", "ends", "[I", true)
  | 2 => ("BackSeat$Texts", "stack", "[I", true)
  | 3 => ("BackSeat$Texts", "size", "I", false)
  | _ => ("BackSeat$Texts", "next", "I", false)
def tyX5 : Nat → FieldType := fun k => match k with
  | 0 => .array .int
  | 1 => .array .int
  | 2 => .array .int
  | 3 => .int
  | _ => .int
abbrev wsX50 : List Cond := u_ws RX5 TX5 5
theorem nmX5 : ∀ a, a < 5 → ∀ b, b < 5 → a ≠ b → (TX5 a).2.1 ≠ (TX5 b).2.1 := by decide +kernel
theorem tyX5_ok : ∀ k, k < 5 → parseFieldDescriptor (TX5 k).2.2.1 = some (tyX5 k) := by decide +kernel
abbrev cX5_init : ByteArray := prog_7_method_1_code
def yX5_init : MethodName := ⟨RX5, "<init>", "()V"⟩
abbrev cX5_startDraft : ByteArray := prog_7_method_2_code
def yX5_startDraft : MethodName := ⟨RX5, "startDraft", "()V"⟩
abbrev cX5_add : ByteArray := prog_7_method_3_code
def yX5_add : MethodName := ⟨RX5, "add", "(I)V"⟩
abbrev cX5_endPart : ByteArray := prog_7_method_4_code
def yX5_endPart : MethodName := ⟨RX5, "endPart", "(I)V"⟩
abbrev cX5_keepDraft : ByteArray := prog_7_method_5_code
def yX5_keepDraft : MethodName := ⟨RX5, "keepDraft", "()V"⟩
abbrev cX5_value : ByteArray := prog_7_method_6_code
def yX5_value : MethodName := ⟨RX5, "value", "(II[I)I"⟩
abbrev cX5_joined : ByteArray := prog_7_method_7_code
def yX5_joined : MethodName := ⟨RX5, "joined", "(III)I"⟩
def RX6 : String := "BackSeat"
def TX6 : u_T := fun k => match k with
  | 0 => ("BackSeat", "texts", "LBackSeat$Texts;", true)
  | 1 => ("BackSeat", "reader", "LBackSeat$Reader;", true)
  | 2 => ("BackSeat", "now", "LBackSeat$Coach;", true)
  | 3 => ("BackSeat", "thought", "LBackSeat$Coach;", true)
  | 4 => ("BackSeat", "kept", "LBackSeat$Coach;", true)
  | 5 => ("BackSeat", "isKept", "Z", false)
  | 6 => ("BackSeat", "journey", "LBackSeat$Ride;", true)
  | 7 => ("BackSeat", "drawing", "LBackSeat$Hat;", true)
  | _ => ("BackSeat", "sheets", "[LBackSeat$Sheet;", true)
def tyX6 : Nat → FieldType := fun k => match k with
  | 0 => .object "BackSeat$Texts"
  | 1 => .object "BackSeat$Reader"
  | 2 => .object "BackSeat$Coach"
  | 3 => .object "BackSeat$Coach"
  | 4 => .object "BackSeat$Coach"
  | 5 => .boolean
  | 6 => .object "BackSeat$Ride"
  | 7 => .object "BackSeat$Hat"
  | _ => .array (.object "BackSeat$Sheet")
abbrev wsX60 : List Cond := u_ws RX6 TX6 9
theorem nmX6 : ∀ a, a < 9 → ∀ b, b < 9 → a ≠ b → (TX6 a).2.1 ≠ (TX6 b).2.1 := by decide +kernel
theorem tyX6_ok : ∀ k, k < 9 → parseFieldDescriptor (TX6 k).2.2.1 = some (tyX6 k) := by decide +kernel
abbrev cX6_init : ByteArray := prog_1_method_1_code
def yX6_init : MethodName := ⟨RX6, "<init>", "()V"⟩
abbrev cX6_set : ByteArray := prog_1_method_2_code
def yX6_set : MethodName := ⟨RX6, "set", "(III)I"⟩
abbrev cX6_setForAll : ByteArray := prog_1_method_3_code
def yX6_setForAll : MethodName := ⟨RX6, "setForAll", "(II)I"⟩
abbrev cX6_passenger : ByteArray := prog_1_method_4_code
def yX6_passenger : MethodName := ⟨RX6, "passenger", "(II)I"⟩
abbrev cX6_sit : ByteArray := prog_1_method_5_code
def yX6_sit : MethodName := ⟨RX6, "sit", "(II)I"⟩
abbrev cX6_told : ByteArray := prog_1_method_6_code
def yX6_told : MethodName := ⟨RX6, "told", "(II)I"⟩
abbrev cX6_who : ByteArray := prog_1_method_7_code
def yX6_who : MethodName := ⟨RX6, "who", "(I)I"⟩
abbrev cX6_feed : ByteArray := prog_1_method_8_code
def yX6_feed : MethodName := ⟨RX6, "feed", "(I)I"⟩
abbrev cX6_text : ByteArray := prog_1_method_9_code
def yX6_text : MethodName := ⟨RX6, "text", "()I"⟩
abbrev cX6_force : ByteArray := prog_1_method_10_code
def yX6_force : MethodName := ⟨RX6, "force", "(I)I"⟩
abbrev cX6_all : ByteArray := prog_1_method_11_code
def yX6_all : MethodName := ⟨RX6, "all", "(I)I"⟩
abbrev cX6_ride : ByteArray := prog_1_method_12_code
def yX6_ride : MethodName := ⟨RX6, "ride", "(II)I"⟩
abbrev cX6_isRide : ByteArray := prog_1_method_13_code
def yX6_isRide : MethodName := ⟨RX6, "isRide", "(I)Z"⟩
abbrev cX6_best : ByteArray := prog_1_method_14_code
def yX6_best : MethodName := ⟨RX6, "best", "(II)I"⟩
abbrev cX6_change : ByteArray := prog_1_method_15_code
def yX6_change : MethodName := ⟨RX6, "change", "(I)I"⟩
abbrev cX6_watch : ByteArray := prog_1_method_16_code
def yX6_watch : MethodName := ⟨RX6, "watch", "(I)I"⟩
abbrev cX6_hat : ByteArray := prog_1_method_17_code
def yX6_hat : MethodName := ⟨RX6, "hat", "(II)I"⟩
abbrev cX6_front : ByteArray := prog_1_method_18_code
def yX6_front : MethodName := ⟨RX6, "front", "(II)I"⟩
abbrev cX6_stop : ByteArray := prog_1_method_19_code
def yX6_stop : MethodName := ⟨RX6, "stop", "(II)I"⟩
abbrev cX6_isZeroOrOne : ByteArray := prog_1_method_20_code
def yX6_isZeroOrOne : MethodName := ⟨RX6, "isZeroOrOne", "(I)Z"⟩
abbrev cX6_dinMoved : ByteArray := prog_1_method_21_code
def yX6_dinMoved : MethodName := ⟨RX6, "dinMoved", "(II)I"⟩
abbrev cX6_dinChanged : ByteArray := prog_1_method_22_code
def yX6_dinChanged : MethodName := ⟨RX6, "dinChanged", "(II)I"⟩
abbrev cX6_sickMoved : ByteArray := prog_1_method_23_code
def yX6_sickMoved : MethodName := ⟨RX6, "sickMoved", "(III)I"⟩
abbrev cX6_tells : ByteArray := prog_1_method_24_code
def yX6_tells : MethodName := ⟨RX6, "tells", "(II)I"⟩
abbrev cX6_textsTold : ByteArray := prog_1_method_25_code
def yX6_textsTold : MethodName := ⟨RX6, "textsTold", "(LBackSeat$Sheet;)I"⟩
abbrev cX6_milesTold : ByteArray := prog_1_method_26_code
def yX6_milesTold : MethodName := ⟨RX6, "milesTold", "(LBackSeat$Sheet;)I"⟩
abbrev cX6_leastMileTold : ByteArray := prog_1_method_27_code
def yX6_leastMileTold : MethodName := ⟨RX6, "leastMileTold", "(LBackSeat$Sheet;)I"⟩
abbrev cX6_itemsTold : ByteArray := prog_1_method_28_code
def yX6_itemsTold : MethodName := ⟨RX6, "itemsTold", "(LBackSeat$Sheet;[III)I"⟩
abbrev cX6_seatsTold : ByteArray := prog_1_method_29_code
def yX6_seatsTold : MethodName := ⟨RX6, "seatsTold", "(LBackSeat$Sheet;I)I"⟩
abbrev cX6_film : ByteArray := prog_1_method_30_code
def yX6_film : MethodName := ⟨RX6, "film", "(I)I"⟩
abbrev cX6_drawn : ByteArray := prog_1_method_31_code
def yX6_drawn : MethodName := ⟨RX6, "drawn", "(I)I"⟩
abbrev cX6_chance : ByteArray := prog_1_method_32_code
def yX6_chance : MethodName := ⟨RX6, "chance", "(III)J"⟩
abbrev cX6_lowered : ByteArray := prog_1_method_33_code
def yX6_lowered : MethodName := ⟨RX6, "lowered", "(III)I"⟩
abbrev cX6_image : ByteArray := prog_1_method_34_code
def yX6_image : MethodName := ⟨RX6, "image", "()I"⟩
abbrev cX6_back : ByteArray := prog_1_method_35_code
def yX6_back : MethodName := ⟨RX6, "back", "()I"⟩
abbrev cX6_count : ByteArray := prog_1_method_36_code
def yX6_count : MethodName := ⟨RX6, "count", "(I)I"⟩
abbrev cX6_sheet : ByteArray := prog_1_method_37_code
def yX6_sheet : MethodName := ⟨RX6, "sheet", "(III)I"⟩
abbrev cX6_cell : ByteArray := prog_1_method_38_code
def yX6_cell : MethodName := ⟨RX6, "cell", "(III)I"⟩
abbrev cX6_copy : ByteArray := prog_1_method_39_code
def yX6_copy : MethodName := ⟨RX6, "copy", "(IIIII)I"⟩
abbrev cX6_passengers : ByteArray := prog_1_method_40_code
def yX6_passengers : MethodName := ⟨RX6, "passengers", "(IIII)I"⟩
abbrev cX6_taken : ByteArray := prog_1_method_41_code
def yX6_taken : MethodName := ⟨RX6, "taken", "(II)I"⟩
abbrev cX6_isUnder : ByteArray := prog_1_method_42_code
def yX6_isUnder : MethodName := ⟨RX6, "isUnder", "(II)Z"⟩
abbrev cX6_kindAbove : ByteArray := prog_1_method_43_code
def yX6_kindAbove : MethodName := ⟨RX6, "kindAbove", "(I)I"⟩
abbrev cX6_sheetAt : ByteArray := prog_1_method_44_code
def yX6_sheetAt : MethodName := ⟨RX6, "sheetAt", "(I)LBackSeat$Sheet;"⟩
abbrev cX6_itemAt : ByteArray := prog_1_method_45_code
def yX6_itemAt : MethodName := ⟨RX6, "itemAt", "([II)I"⟩
abbrev cX6_put : ByteArray := prog_1_method_46_code
def yX6_put : MethodName := ⟨RX6, "put", "([III)V"⟩
abbrev cX6_swapItem : ByteArray := prog_1_method_47_code
def yX6_swapItem : MethodName := ⟨RX6, "swapItem", "([III)I"⟩
abbrev cX6_fill : ByteArray := prog_1_method_48_code
def yX6_fill : MethodName := ⟨RX6, "fill", "([II)V"⟩
abbrev cX6_fillFrom : ByteArray := prog_1_method_49_code
def yX6_fillFrom : MethodName := ⟨RX6, "fillFrom", "([I[I)V"⟩
abbrev cX6_pairSeat : ByteArray := prog_1_method_50_code
def yX6_pairSeat : MethodName := ⟨RX6, "pairSeat", "(I)I"⟩
abbrev cX6_crossSeat : ByteArray := prog_1_method_51_code
def yX6_crossSeat : MethodName := ⟨RX6, "crossSeat", "(I)I"⟩
abbrev cX6_noiseBy : ByteArray := prog_1_method_52_code
def yX6_noiseBy : MethodName := ⟨RX6, "noiseBy", "(IIIIZ)I"⟩
abbrev cX6_queasyBy : ByteArray := prog_1_method_53_code
def yX6_queasyBy : MethodName := ⟨RX6, "queasyBy", "(III)I"⟩
abbrev cX6_gladBy : ByteArray := prog_1_method_54_code
def yX6_gladBy : MethodName := ⟨RX6, "gladBy", "(IIIZ)I"⟩
abbrev cX6_bounded : ByteArray := prog_1_method_55_code
def yX6_bounded : MethodName := ⟨RX6, "bounded", "(III)I"⟩
def RX7 : String := "BackSeatModel"
def TX7 : u_T := fun k => match k with
  | 0 => ("BackSeatModel", "thrown", "I", false)
  | 1 => ("BackSeatModel", "texts", "[I", true)
  | 2 => ("BackSeatModel", "textSize", "[I", true)
  | 3 => ("BackSeatModel", "textCount", "I", false)
  | 4 => ("BackSeatModel", "rule", "I", false)
  | 5 => ("BackSeatModel", "tape", "[I", true)
  | 6 => ("BackSeatModel", "taped", "I", false)
  | 7 => ("BackSeatModel", "mileNow", "I", false)
  | 8 => ("BackSeatModel", "limit", "I", false)
  | 9 => ("BackSeatModel", "kinds", "[I", true)
  | 10 => ("BackSeatModel", "numbers", "[I", true)
  | 11 => ("BackSeatModel", "friends", "[I", true)
  | 12 => ("BackSeatModel", "seatOf", "[I", true)
  | 13 => ("BackSeatModel", "sits", "[I", true)
  | 14 => ("BackSeatModel", "many", "I", false)
  | 15 => ("BackSeatModel", "ofRow", "I", false)
  | 16 => ("BackSeatModel", "ofColumn", "I", false)
  | 17 => ("BackSeatModel", "ofMile", "I", false)
  | 18 => ("BackSeatModel", "ofNumber", "I", false)
  | 19 => ("BackSeatModel", "ofBeside", "I", false)
  | 20 => ("BackSeatModel", "ofFriend", "I", false)
  | 21 => ("BackSeatModel", "from", "I", false)
  | 22 => ("BackSeatModel", "size", "I", false)
  | 23 => ("BackSeatModel", "here", "I", false)
  | 24 => ("BackSeatModel", "token", "I", false)
  | 25 => ("BackSeatModel", "tokenAt", "I", false)
  | 26 => ("BackSeatModel", "tokenWorth", "J", false)
  | 27 => ("BackSeatModel", "open", "I", false)
  | 28 => ("BackSeatModel", "bad", "Z", false)
  | 29 => ("BackSeatModel", "fault", "I", false)
  | 30 => ("BackSeatModel", "ill", "[I", true)
  | 31 => ("BackSeatModel", "often", "[I", true)
  | 32 => ("BackSeatModel", "firstIn", "[I", true)
  | 33 => ("BackSeatModel", "sickAll", "I", false)
  | 34 => ("BackSeatModel", "firstWho", "I", false)
  | 35 => ("BackSeatModel", "found", "I", false)
  | 36 => ("BackSeatModel", "least", "I", false)
  | 37 => ("BackSeatModel", "hatMany", "I", false)
  | 38 => ("BackSeatModel", "hatDigits", "I", false)
  | 39 => ("BackSeatModel", "hatJoy", "I", false)
  | 40 => ("BackSeatModel", "seatsWas", "[I", true)
  | 41 => ("BackSeatModel", "numbersKept", "[I", true)
  | 42 => ("BackSeatModel", "friendsKept", "[I", true)
  | 43 => ("BackSeatModel", "seatsKept", "[I", true)
  | 44 => ("BackSeatModel", "manyKept", "I", false)
  | 45 => ("BackSeatModel", "mileKept", "I", false)
  | 46 => ("BackSeatModel", "limitKept", "I", false)
  | 47 => ("BackSeatModel", "ruleKept", "I", false)
  | 48 => ("BackSeatModel", "isThere", "[Z", true)
  | 49 => ("BackSeatModel", "sorts", "[I", true)
  | 50 => ("BackSeatModel", "sheetSize", "[I", true)
  | _ => ("BackSeatModel", "items", "[I", true)
def tyX7 : Nat → FieldType := fun k => match k with
  | 0 => .int
  | 1 => .array .int
  | 2 => .array .int
  | 3 => .int
  | 4 => .int
  | 5 => .array .int
  | 6 => .int
  | 7 => .int
  | 8 => .int
  | 9 => .array .int
  | 10 => .array .int
  | 11 => .array .int
  | 12 => .array .int
  | 13 => .array .int
  | 14 => .int
  | 15 => .int
  | 16 => .int
  | 17 => .int
  | 18 => .int
  | 19 => .int
  | 20 => .int
  | 21 => .int
  | 22 => .int
  | 23 => .int
  | 24 => .int
  | 25 => .int
  | 26 => .long
  | 27 => .int
  | 28 => .boolean
  | 29 => .int
  | 30 => .array .int
  | 31 => .array .int
  | 32 => .array .int
  | 33 => .int
  | 34 => .int
  | 35 => .int
  | 36 => .int
  | 37 => .int
  | 38 => .int
  | 39 => .int
  | 40 => .array .int
  | 41 => .array .int
  | 42 => .array .int
  | 43 => .array .int
  | 44 => .int
  | 45 => .int
  | 46 => .int
  | 47 => .int
  | 48 => .array .boolean
  | 49 => .array .int
  | 50 => .array .int
  | _ => .array .int
abbrev wsX70 : List Cond := u_ws RX7 TX7 52
theorem nmX7 : ∀ a, a < 52 → ∀ b, b < 52 → a ≠ b → (TX7 a).2.1 ≠ (TX7 b).2.1 := by decide +kernel
theorem tyX7_ok : ∀ k, k < 52 → parseFieldDescriptor (TX7 k).2.2.1 = some (tyX7 k) := by decide +kernel
abbrev cX7_in : ByteArray := prog_9_method_2_code
def yX7_in : MethodName := ⟨RX7, "in", "(JJJ)Z"⟩
abbrev cX7_within : ByteArray := prog_9_method_3_code
def yX7_within : MethodName := ⟨RX7, "within", "(III)I"⟩
abbrev cX7_init : ByteArray := prog_9_method_4_code
def yX7_init : MethodName := ⟨RX7, "<init>", "()V"⟩
abbrev cX7_spell : ByteArray := prog_9_method_5_code
def yX7_spell : MethodName := ⟨RX7, "spell", "(IIIIIIIII)V"⟩
abbrev cX7_isOne : ByteArray := prog_9_method_6_code
def yX7_isOne : MethodName := ⟨RX7, "isOne", "(I)Z"⟩
abbrev cX7_isSeat : ByteArray := prog_9_method_7_code
def yX7_isSeat : MethodName := ⟨RX7, "isSeat", "(I)Z"⟩
abbrev cX7_isValue : ByteArray := prog_9_method_8_code
def yX7_isValue : MethodName := ⟨RX7, "isValue", "(III)Z"⟩
abbrev cX7_set : ByteArray := prog_9_method_9_code
def yX7_set : MethodName := ⟨RX7, "set", "(III)I"⟩
abbrev cX7_lays : ByteArray := prog_9_method_10_code
def yX7_lays : MethodName := ⟨RX7, "lays", "(III)V"⟩
abbrev cX7_passenger : ByteArray := prog_9_method_11_code
def yX7_passenger : MethodName := ⟨RX7, "passenger", "(II)I"⟩
abbrev cX7_seats : ByteArray := prog_9_method_12_code
def yX7_seats : MethodName := ⟨RX7, "seats", "(II)V"⟩
abbrev cX7_sit : ByteArray := prog_9_method_13_code
def yX7_sit : MethodName := ⟨RX7, "sit", "(II)I"⟩
abbrev cX7_told : ByteArray := prog_9_method_14_code
def yX7_told : MethodName := ⟨RX7, "told", "(II)I"⟩
abbrev cX7_who : ByteArray := prog_9_method_15_code
def yX7_who : MethodName := ⟨RX7, "who", "(I)I"⟩
abbrev cX7_feed : ByteArray := prog_9_method_16_code
def yX7_feed : MethodName := ⟨RX7, "feed", "(I)I"⟩
abbrev cX7_byteAt : ByteArray := prog_9_method_17_code
def yX7_byteAt : MethodName := ⟨RX7, "byteAt", "(I)I"⟩
abbrev cX7_next : ByteArray := prog_9_method_18_code
def yX7_next : MethodName := ⟨RX7, "next", "()V"⟩
abbrev cX7_fail : ByteArray := prog_9_method_19_code
def yX7_fail : MethodName := ⟨RX7, "fail", "()V"⟩
abbrev cX7_isLetter : ByteArray := prog_9_method_20_code
def yX7_isLetter : MethodName := ⟨RX7, "isLetter", "(II)Z"⟩
abbrev cX7_isWord : ByteArray := prog_9_method_21_code
def yX7_isWord : MethodName := ⟨RX7, "isWord", "(IIIIIIII)Z"⟩
abbrev cX7_isSign : ByteArray := prog_9_method_22_code
def yX7_isSign : MethodName := ⟨RX7, "isSign", "(I)Z"⟩
abbrev cX7_opens : ByteArray := prog_9_method_23_code
def yX7_opens : MethodName := ⟨RX7, "opens", "()Z"⟩
abbrev cX7_name : ByteArray := prog_9_method_24_code
def yX7_name : MethodName := ⟨RX7, "name", "()I"⟩
abbrev cX7_atom : ByteArray := prog_9_method_25_code
def yX7_atom : MethodName := ⟨RX7, "atom", "()I"⟩
abbrev cX7_term : ByteArray := prog_9_method_26_code
def yX7_term : MethodName := ⟨RX7, "term", "()I"⟩
abbrev cX7_added : ByteArray := prog_9_method_27_code
def yX7_added : MethodName := ⟨RX7, "added", "()I"⟩
abbrev cX7_not : ByteArray := prog_9_method_28_code
def yX7_not : MethodName := ⟨RX7, "not", "()I"⟩
abbrev cX7_both : ByteArray := prog_9_method_29_code
def yX7_both : MethodName := ⟨RX7, "both", "()I"⟩
abbrev cX7_either : ByteArray := prog_9_method_30_code
def yX7_either : MethodName := ⟨RX7, "either", "()I"⟩
abbrev cX7_part : ByteArray := prog_9_method_31_code
def yX7_part : MethodName := ⟨RX7, "part", "(Z)I"⟩
abbrev cX7_read : ByteArray := prog_9_method_32_code
def yX7_read : MethodName := ⟨RX7, "read", "(II)I"⟩
abbrev cX7_text : ByteArray := prog_9_method_33_code
def yX7_text : MethodName := ⟨RX7, "text", "()I"⟩
abbrev cX7_force : ByteArray := prog_9_method_34_code
def yX7_force : MethodName := ⟨RX7, "force", "(I)I"⟩
abbrev cX7_neighbour : ByteArray := prog_9_method_35_code
def yX7_neighbour : MethodName := ⟨RX7, "neighbour", "(II)I"⟩
abbrev cX7_besideOf : ByteArray := prog_9_method_36_code
def yX7_besideOf : MethodName := ⟨RX7, "besideOf", "(I)I"⟩
abbrev cX7_isTeacher : ByteArray := prog_9_method_37_code
def yX7_isTeacher : MethodName := ⟨RX7, "isTeacher", "(I)Z"⟩
abbrev cX7_isWatched : ByteArray := prog_9_method_38_code
def yX7_isWatched : MethodName := ⟨RX7, "isWatched", "(I)Z"⟩
abbrev cX7_hasFriend : ByteArray := prog_9_method_39_code
def yX7_hasFriend : MethodName := ⟨RX7, "hasFriend", "(I)Z"⟩
abbrev cX7_asks : ByteArray := prog_9_method_40_code
def yX7_asks : MethodName := ⟨RX7, "asks", "(III)I"⟩
abbrev cX7_noiseOf : ByteArray := prog_9_method_41_code
def yX7_noiseOf : MethodName := ⟨RX7, "noiseOf", "(I)I"⟩
abbrev cX7_queasyOf : ByteArray := prog_9_method_42_code
def yX7_queasyOf : MethodName := ⟨RX7, "queasyOf", "(II)I"⟩
abbrev cX7_gladOf : ByteArray := prog_9_method_43_code
def yX7_gladOf : MethodName := ⟨RX7, "gladOf", "(I)I"⟩
abbrev cX7_din : ByteArray := prog_9_method_44_code
def yX7_din : MethodName := ⟨RX7, "din", "()I"⟩
abbrev cX7_joy : ByteArray := prog_9_method_45_code
def yX7_joy : MethodName := ⟨RX7, "joy", "()I"⟩
abbrev cX7_all : ByteArray := prog_9_method_46_code
def yX7_all : MethodName := ⟨RX7, "all", "(I)I"⟩
abbrev cX7_rides : ByteArray := prog_9_method_47_code
def yX7_rides : MethodName := ⟨RX7, "rides", "(II)V"⟩
abbrev cX7_ride : ByteArray := prog_9_method_48_code
def yX7_ride : MethodName := ⟨RX7, "ride", "(II)I"⟩
abbrev cX7_best : ByteArray := prog_9_method_49_code
def yX7_best : MethodName := ⟨RX7, "best", "(II)I"⟩
abbrev cX7_swaps : ByteArray := prog_9_method_50_code
def yX7_swaps : MethodName := ⟨RX7, "swaps", "(II)V"⟩
abbrev cX7_looksAt : ByteArray := prog_9_method_51_code
def yX7_looksAt : MethodName := ⟨RX7, "looksAt", "(II)V"⟩
abbrev cX7_change : ByteArray := prog_9_method_52_code
def yX7_change : MethodName := ⟨RX7, "change", "(I)I"⟩
abbrev cX7_firstTeacher : ByteArray := prog_9_method_53_code
def yX7_firstTeacher : MethodName := ⟨RX7, "firstTeacher", "()I"⟩
abbrev cX7_watch : ByteArray := prog_9_method_54_code
def yX7_watch : MethodName := ⟨RX7, "watch", "(I)I"⟩
abbrev cX7_isHat : ByteArray := prog_9_method_55_code
def yX7_isHat : MethodName := ⟨RX7, "isHat", "(I)Z"⟩
abbrev cX7_seeks : ByteArray := prog_9_method_56_code
def yX7_seeks : MethodName := ⟨RX7, "seeks", "(IIII)V"⟩
abbrev cX7_stands : ByteArray := prog_9_method_57_code
def yX7_stands : MethodName := ⟨RX7, "stands", "()V"⟩
abbrev cX7_sitsAgain : ByteArray := prog_9_method_58_code
def yX7_sitsAgain : MethodName := ⟨RX7, "sitsAgain", "()V"⟩
abbrev cX7_hat : ByteArray := prog_9_method_59_code
def yX7_hat : MethodName := ⟨RX7, "hat", "(II)I"⟩
abbrev cX7_front : ByteArray := prog_9_method_60_code
def yX7_front : MethodName := ⟨RX7, "front", "(II)I"⟩
abbrev cX7_stop : ByteArray := prog_9_method_61_code
def yX7_stop : MethodName := ⟨RX7, "stop", "(II)I"⟩
abbrev cX7_unlike : ByteArray := prog_9_method_62_code
def yX7_unlike : MethodName := ⟨RX7, "unlike", "(I)I"⟩
abbrev cX7_seatsBy : ByteArray := prog_9_method_63_code
def yX7_seatsBy : MethodName := ⟨RX7, "seatsBy", "(II)I"⟩
abbrev cX7_tells : ByteArray := prog_9_method_64_code
def yX7_tells : MethodName := ⟨RX7, "tells", "(II)I"⟩
abbrev cX7_film : ByteArray := prog_9_method_65_code
def yX7_film : MethodName := ⟨RX7, "film", "(I)I"⟩
abbrev cX7_dinBy : ByteArray := prog_9_method_66_code
def yX7_dinBy : MethodName := ⟨RX7, "dinBy", "(I)I"⟩
abbrev cX7_drawn : ByteArray := prog_9_method_67_code
def yX7_drawn : MethodName := ⟨RX7, "drawn", "(I)I"⟩
abbrev cX7_chance : ByteArray := prog_9_method_68_code
def yX7_chance : MethodName := ⟨RX7, "chance", "(III)J"⟩
abbrev cX7_image : ByteArray := prog_9_method_69_code
def yX7_image : MethodName := ⟨RX7, "image", "()I"⟩
abbrev cX7_back : ByteArray := prog_9_method_70_code
def yX7_back : MethodName := ⟨RX7, "back", "()I"⟩
abbrev cX7_count : ByteArray := prog_9_method_71_code
def yX7_count : MethodName := ⟨RX7, "count", "(I)I"⟩
abbrev cX7_isSheet : ByteArray := prog_9_method_72_code
def yX7_isSheet : MethodName := ⟨RX7, "isSheet", "(I)Z"⟩
abbrev cX7_sheet : ByteArray := prog_9_method_73_code
def yX7_sheet : MethodName := ⟨RX7, "sheet", "(III)I"⟩
abbrev cX7_cell : ByteArray := prog_9_method_74_code
def yX7_cell : MethodName := ⟨RX7, "cell", "(III)I"⟩
abbrev cX7_copy : ByteArray := prog_9_method_75_code
def yX7_copy : MethodName := ⟨RX7, "copy", "(IIIII)I"⟩
abbrev cX7_passengers : ByteArray := prog_9_method_76_code
def yX7_passengers : MethodName := ⟨RX7, "passengers", "(IIII)I"⟩
abbrev cX7_over : ByteArray := prog_9_method_77_code
def yX7_over : MethodName := ⟨RX7, "over", "(I)I"⟩
abbrev cX7_taken : ByteArray := prog_9_method_78_code
def yX7_taken : MethodName := ⟨RX7, "taken", "(II)I"⟩
def RJ0 : String := "java/lang/String"
def TJ0 : u_T := fun k => match k with
  | _ => ("", "", "", false)
def tyJ0 : Nat → FieldType := fun k => match k with
  | _ => .int
abbrev wsJ00 : List Cond := u_ws RJ0 TJ0 0
abbrev cJ0_length_8abf5 : ByteArray := prog_10_method_54_code
def yJ0_length_8abf5 : MethodName := ⟨RJ0, "length", "()I"⟩
abbrev cJ0_charAt_5068e : ByteArray := prog_10_method_56_code
def yJ0_charAt_5068e : MethodName := ⟨RJ0, "charAt", "(I)C"⟩
abbrev cJ0_coder_7d493 : ByteArray := prog_10_method_152_code
def yJ0_coder_7d493 : MethodName := ⟨RJ0, "coder", "()B"⟩
abbrev cJ0_isLatin1_aae02 : ByteArray := prog_10_method_154_code
def yJ0_isLatin1_aae02 : MethodName := ⟨RJ0, "isLatin1", "()Z"⟩
abbrev cJ0_checkIndex_df160 : ByteArray := prog_10_method_155_code
def yJ0_checkIndex_df160 : MethodName := ⟨RJ0, "checkIndex", "(II)V"⟩
def RJ1 : String := "java/lang/StringLatin1"
def TJ1 : u_T := fun k => match k with
  | _ => ("", "", "", false)
def tyJ1 : Nat → FieldType := fun k => match k with
  | _ => .int
abbrev wsJ10 : List Cond := u_ws RJ1 TJ1 0
abbrev cJ1_charAt_3b067 : ByteArray := prog_11_method_2_code
def yJ1_charAt_3b067 : MethodName := ⟨RJ1, "charAt", "([BI)C"⟩
def RJ2 : String := "java/lang/StringUTF16"
def TJ2 : u_T := fun k => match k with
  | _ => ("", "", "", false)
def tyJ2 : Nat → FieldType := fun k => match k with
  | _ => .int
abbrev wsJ20 : List Cond := u_ws RJ2 TJ2 0
abbrev cJ2_getChar_3b067 : ByteArray := prog_12_method_5_code
def yJ2_getChar_3b067 : MethodName := ⟨RJ2, "getChar", "([BI)C"⟩
abbrev cJ2_length_9d52b : ByteArray := prog_12_method_6_code
def yJ2_length_9d52b : MethodName := ⟨RJ2, "length", "([B)I"⟩
abbrev cJ2_charAt_3b067 : ByteArray := prog_12_method_83_code
def yJ2_charAt_3b067 : MethodName := ⟨RJ2, "charAt", "([BI)C"⟩
abbrev cJ2_checkIndex_2214a : ByteArray := prog_12_method_91_code
def yJ2_checkIndex_2214a : MethodName := ⟨RJ2, "checkIndex", "(I[B)V"⟩
def RJ10 : String := "java/lang/System"
def TJ10 : u_T := fun k => match k with
  | _ => ("", "", "", false)
def tyJ10 : Nat → FieldType := fun k => match k with
  | _ => .int
abbrev wsJ100 : List Cond := u_ws RJ10 TJ10 0
def RJ3 : String := "jdk/internal/util/Preconditions"
def TJ3 : u_T := fun k => match k with
  | _ => ("", "", "", false)
def tyJ3 : Nat → FieldType := fun k => match k with
  | _ => .int
abbrev wsJ30 : List Cond := u_ws RJ3 TJ3 0
abbrev cJ3_checkIndex_8e157 : ByteArray := prog_14_method_11_code
def yJ3_checkIndex_8e157 : MethodName := ⟨RJ3, "checkIndex", "(IILjava/util/function/BiFunction;)I"⟩
def RL : String := "BackSeatLaw"
abbrev cL_law : ByteArray := code
def yL_law : MethodName := ⟨RL, "law", "([I)Z"⟩
abbrev vwCl : List vw_C := [(RX0, TX0, 11), (RX1, TX1, 6), (RX2, TX2, 7), (RX3, TX3, 7), (RX4, TX4, 3), (RX5, TX5, 5), (RX6, TX6, 9), (RX7, TX7, 52)]
end
section
/-! the code of each method, read off the class files (written by wip/whole/gen1.py) -/
def zzc_0 : List (Nat × Instr × Nat) := [(0, .aload_n 0, 1), (1, .invokespecial 3, 3), (4, .aload_n 0, 1), (5, .aload_n 1, 1), (6, .putfield 9, 3), (9, .aload_n 0, 1), (10, .iconst 0, 1), (11, .putfield 15, 3), (14, .aload_n 0, 1), (15, .bipush 50, 2), (17, .putfield 19, 3), (20, .aload_n 0, 1), (21, .iconst 0, 1), (22, .putfield 22, 3), (25, .aload_n 0, 1), (26, .iconst 0, 1), (27, .putfield 25, 3), (30, .aload_n 0, 1), (31, .bipush 8, 2), (33, .newarray .int, 2), (35, .putfield 28, 3), (38, .aload_n 0, 1), (39, .bipush 8, 2), (41, .newarray .int, 2), (43, .putfield 32, 3), (46, .aload_n 0, 1), (47, .bipush 8, 2), (49, .newarray .int, 2), (51, .putfield 35, 3), (54, .aload_n 0, 1), (55, .bipush 8, 2), (57, .newarray .int, 2), (59, .putfield 38, 3), (62, .aload_n 0, 1), (63, .bipush 24, 2), (65, .newarray .int, 2), (67, .putfield 41, 3), (70, .aload_n 0, 1), (71, .getfield 41, 3), (74, .iconst (-1), 1), (75, .invokestatic 44, 3), (78, .aload_n 0, 1), (79, .bipush 6, 2), (81, .newarray .int, 2), (83, .putfield 48, 3), (86, .return_, 1)]
set_option maxRecDepth 100000 in
theorem zzk_0 : ∀ q ∈ zzc_0, decode cX0_init q.1 = .ok q.2 := by decide +kernel
def zzc_1 : List (Nat × Instr × Nat) := [(0, .aload_n 0, 1), (1, .aload_n 1, 1), (2, .getfield 15, 3), (5, .putfield 15, 3), (8, .aload_n 0, 1), (9, .aload_n 1, 1), (10, .getfield 19, 3), (13, .putfield 19, 3), (16, .aload_n 0, 1), (17, .aload_n 1, 1), (18, .getfield 22, 3), (21, .putfield 22, 3), (24, .aload_n 0, 1), (25, .aload_n 1, 1), (26, .getfield 25, 3), (29, .putfield 25, 3), (32, .aload_n 0, 1), (33, .getfield 28, 3), (36, .aload_n 1, 1), (37, .getfield 28, 3), (40, .invokestatic 51, 3), (43, .aload_n 0, 1), (44, .getfield 32, 3), (47, .aload_n 1, 1), (48, .getfield 32, 3), (51, .invokestatic 51, 3), (54, .aload_n 0, 1), (55, .getfield 35, 3), (58, .aload_n 1, 1), (59, .getfield 35, 3), (62, .invokestatic 51, 3), (65, .aload_n 0, 1), (66, .getfield 38, 3), (69, .aload_n 1, 1), (70, .getfield 38, 3), (73, .invokestatic 51, 3), (76, .aload_n 0, 1), (77, .getfield 41, 3), (80, .aload_n 1, 1), (81, .getfield 41, 3), (84, .invokestatic 51, 3), (87, .return_, 1)]
set_option maxRecDepth 100000 in
theorem zzk_1 : ∀ q ∈ zzc_1, decode cX0_take q.1 = .ok q.2 := by decide +kernel
def zzc_2 : List (Nat × Instr × Nat) := [(0, .iload_n 1, 1), (1, .ifCond .lt 15, 3), (4, .iload_n 1, 1), (5, .aload_n 0, 1), (6, .getfield 25, 3), (9, .if_icmp .ge 7, 3), (12, .iconst 1, 1), (13, .goto 4, 3), (16, .iconst 0, 1), (17, .ireturn, 1)]
set_option maxRecDepth 100000 in
theorem zzk_2 : ∀ q ∈ zzc_2, decode cX0_has q.1 = .ok q.2 := by decide +kernel
def zzc_3 : List (Nat × Instr × Nat) := [(0, .aload_n 0, 1), (1, .getfield 28, 3), (4, .aload_n 0, 1), (5, .getfield 25, 3), (8, .iload_n 1, 1), (9, .invokestatic 55, 3), (12, .aload_n 0, 1), (13, .getfield 32, 3), (16, .aload_n 0, 1), (17, .getfield 25, 3), (20, .iload_n 2, 1), (21, .invokestatic 55, 3), (24, .aload_n 0, 1), (25, .getfield 35, 3), (28, .aload_n 0, 1), (29, .getfield 25, 3), (32, .iconst (-1), 1), (33, .invokestatic 55, 3), (36, .aload_n 0, 1), (37, .getfield 38, 3), (40, .aload_n 0, 1), (41, .getfield 25, 3), (44, .iconst (-1), 1), (45, .invokestatic 55, 3), (48, .aload_n 0, 1), (49, .dup, 1), (50, .getfield 25, 3), (53, .iconst 1, 1), (54, .iadd, 1), (55, .putfield 25, 3), (58, .aload_n 0, 1), (59, .getfield 25, 3), (62, .iconst 1, 1), (63, .isub, 1), (64, .ireturn, 1)]
set_option maxRecDepth 100000 in
theorem zzk_3 : ∀ q ∈ zzc_3, decode cX0_join q.1 = .ok q.2 := by decide +kernel
def zzc_4 : List (Nat × Instr × Nat) := [(0, .aload_n 0, 1), (1, .getfield 28, 3), (4, .iload_n 1, 1), (5, .invokestatic 59, 3), (8, .ireturn, 1)]
set_option maxRecDepth 100000 in
theorem zzk_4 : ∀ q ∈ zzc_4, decode cX0_kindOf q.1 = .ok q.2 := by decide +kernel
def zzc_5 : List (Nat × Instr × Nat) := [(0, .aload_n 0, 1), (1, .getfield 32, 3), (4, .iload_n 1, 1), (5, .invokestatic 59, 3), (8, .ireturn, 1)]
set_option maxRecDepth 100000 in
theorem zzk_5 : ∀ q ∈ zzc_5, decode cX0_numberOf q.1 = .ok q.2 := by decide +kernel
def zzc_6 : List (Nat × Instr × Nat) := [(0, .aload_n 0, 1), (1, .getfield 35, 3), (4, .iload_n 1, 1), (5, .invokestatic 59, 3), (8, .ireturn, 1)]
set_option maxRecDepth 100000 in
theorem zzk_6 : ∀ q ∈ zzc_6, decode cX0_friendOf q.1 = .ok q.2 := by decide +kernel
def zzc_7 : List (Nat × Instr × Nat) := [(0, .iload_n 1, 1), (1, .ifCond .lt 29, 3), (4, .iload_n 1, 1), (5, .aload_n 0, 1), (6, .getfield 25, 3), (9, .if_icmp .ge 21, 3), (12, .iload_n 1, 1), (13, .aload_n 0, 1), (14, .getfield 38, 3), (17, .arraylength, 1), (18, .if_icmp .ge 12, 3), (21, .aload_n 0, 1), (22, .getfield 38, 3), (25, .iload_n 1, 1), (26, .iaload, 1), (27, .goto 4, 3), (30, .iconst (-1), 1), (31, .ireturn, 1)]
set_option maxRecDepth 100000 in
theorem zzk_7 : ∀ q ∈ zzc_7, decode cX0_seatOf q.1 = .ok q.2 := by decide +kernel
def zzc_8 : List (Nat × Instr × Nat) := [(0, .aload_n 0, 1), (1, .iload_n 1, 1), (2, .invokevirtual 63, 3), (5, .iconst (-1), 1), (6, .if_icmp .eq 7, 3), (9, .iconst 1, 1), (10, .goto 4, 3), (13, .iconst 0, 1), (14, .ireturn, 1)]
set_option maxRecDepth 100000 in
theorem zzk_8 : ∀ q ∈ zzc_8, decode cX0_sits q.1 = .ok q.2 := by decide +kernel
def zzc_9 : List (Nat × Instr × Nat) := [(0, .iload_n 1, 1), (1, .ifCond .lt 21, 3), (4, .iload_n 1, 1), (5, .aload_n 0, 1), (6, .getfield 41, 3), (9, .arraylength, 1), (10, .if_icmp .ge 12, 3), (13, .aload_n 0, 1), (14, .getfield 41, 3), (17, .iload_n 1, 1), (18, .iaload, 1), (19, .goto 4, 3), (22, .iconst (-1), 1), (23, .ireturn, 1)]
set_option maxRecDepth 100000 in
theorem zzk_9 : ∀ q ∈ zzc_9, decode cX0_sitterAt q.1 = .ok q.2 := by decide +kernel
def zzc_10 : List (Nat × Instr × Nat) := [(0, .aload_n 0, 1), (1, .iload_n 1, 1), (2, .invokevirtual 67, 3), (5, .istore_n 3, 1), (6, .iload_n 3, 1), (7, .iconst (-1), 1), (8, .if_icmp .eq 8, 3), (11, .iload_n 3, 1), (12, .iload_n 2, 1), (13, .if_icmp .ne 7, 3), (16, .iconst 1, 1), (17, .goto 4, 3), (20, .iconst 0, 1), (21, .ireturn, 1)]
set_option maxRecDepth 100000 in
theorem zzk_10 : ∀ q ∈ zzc_10, decode cX0_isOpen q.1 = .ok q.2 := by decide +kernel
def zzc_11 : List (Nat × Instr × Nat) := [(0, .aload_n 0, 1), (1, .getfield 41, 3), (4, .aload_n 0, 1), (5, .iload_n 1, 1), (6, .invokevirtual 63, 3), (9, .iconst (-1), 1), (10, .invokestatic 55, 3), (13, .aload_n 0, 1), (14, .getfield 38, 3), (17, .iload_n 1, 1), (18, .iload_n 2, 1), (19, .invokestatic 55, 3), (22, .aload_n 0, 1), (23, .getfield 41, 3), (26, .iload_n 2, 1), (27, .iload_n 1, 1), (28, .invokestatic 55, 3), (31, .return_, 1)]
set_option maxRecDepth 100000 in
theorem zzk_11 : ∀ q ∈ zzc_11, decode cX0_move q.1 = .ok q.2 := by decide +kernel
def zzc_12 : List (Nat × Instr × Nat) := [(0, .aload_n 0, 1), (1, .iload_n 1, 1), (2, .invokevirtual 63, 3), (5, .istore_n 3, 1), (6, .aload_n 0, 1), (7, .iload_n 2, 1), (8, .invokevirtual 63, 3), (11, .istore 4, 2), (13, .aload_n 0, 1), (14, .iload_n 1, 1), (15, .iconst (-1), 1), (16, .invokevirtual 70, 3), (19, .aload_n 0, 1), (20, .iload_n 2, 1), (21, .iload_n 3, 1), (22, .invokevirtual 70, 3), (25, .aload_n 0, 1), (26, .iload_n 1, 1), (27, .iload 4, 2), (29, .invokevirtual 70, 3), (32, .return_, 1)]
set_option maxRecDepth 100000 in
theorem zzk_12 : ∀ q ∈ zzc_12, decode cX0_exchange q.1 = .ok q.2 := by decide +kernel
def zzc_13 : List (Nat × Instr × Nat) := [(0, .iconst 0, 1), (1, .istore_n 2, 1), (2, .iload_n 2, 1), (3, .bipush 24, 2), (5, .if_icmp .ge 30, 3), (8, .aload_n 0, 1), (9, .iload_n 1, 1), (10, .iload_n 2, 1), (11, .iadd, 1), (12, .bipush 24, 2), (14, .irem, 1), (15, .invokevirtual 67, 3), (18, .iconst (-1), 1), (19, .if_icmp .ne 10, 3), (22, .iload_n 1, 1), (23, .iload_n 2, 1), (24, .iadd, 1), (25, .bipush 24, 2), (27, .irem, 1), (28, .ireturn, 1), (29, .iinc 2 1, 3), (32, .goto (-30), 3), (35, .iconst (-1), 1), (36, .ireturn, 1)]
set_option maxRecDepth 100000 in
theorem zzk_13 : ∀ q ∈ zzc_13, decode cX0_firstFreeFrom q.1 = .ok q.2 := by decide +kernel
def zzc_14 : List (Nat × Instr × Nat) := [(0, .aload_n 0, 1), (1, .iconst 0, 1), (2, .invokevirtual 74, 3), (5, .istore_n 1, 1), (6, .iload_n 1, 1), (7, .iconst 4, 1), (8, .if_icmp .ge 7, 3), (11, .iload_n 1, 1), (12, .goto 4, 3), (15, .iconst (-1), 1), (16, .ireturn, 1)]
set_option maxRecDepth 100000 in
theorem zzk_14 : ∀ q ∈ zzc_14, decode cX0_firstFreeInFront q.1 = .ok q.2 := by decide +kernel
def zzc_15 : List (Nat × Instr × Nat) := [(0, .iconst 0, 1), (1, .istore_n 1, 1), (2, .iload_n 1, 1), (3, .aload_n 0, 1), (4, .getfield 25, 3), (7, .if_icmp .ge 27, 3), (10, .aload_n 0, 1), (11, .iload_n 1, 1), (12, .invokevirtual 77, 3), (15, .ifCond .eq 13, 3), (18, .aload_n 0, 1), (19, .iload_n 1, 1), (20, .invokevirtual 81, 3), (23, .ifCond .eq 5, 3), (26, .iload_n 1, 1), (27, .ireturn, 1), (28, .iinc 1 1, 3), (31, .goto (-29), 3), (34, .iconst (-1), 1), (35, .ireturn, 1)]
set_option maxRecDepth 100000 in
theorem zzk_15 : ∀ q ∈ zzc_15, decode cX0_firstTeacher q.1 = .ok q.2 := by decide +kernel
def zzc_16 : List (Nat × Instr × Nat) := [(0, .aload_n 0, 1), (1, .iload_n 1, 1), (2, .invokevirtual 63, 3), (5, .istore_n 3, 1), (6, .aload_n 0, 1), (7, .iload_n 2, 1), (8, .invokevirtual 63, 3), (11, .istore 4, 2), (13, .iload 4, 2), (15, .iconst (-1), 1), (16, .if_icmp .eq 25, 3), (19, .iload_n 3, 1), (20, .invokestatic 84, 3), (23, .iload 4, 2), (25, .if_icmp .eq 12, 3), (28, .iload_n 3, 1), (29, .invokestatic 87, 3), (32, .iload 4, 2), (34, .if_icmp .ne 7, 3), (37, .iconst 1, 1), (38, .goto 4, 3), (41, .iconst 0, 1), (42, .ireturn, 1)]
set_option maxRecDepth 100000 in
theorem zzk_16 : ∀ q ∈ zzc_16, decode cX0_areBeside q.1 = .ok q.2 := by decide +kernel
def zzc_17 : List (Nat × Instr × Nat) := [(0, .aload_n 0, 1), (1, .iload_n 1, 1), (2, .invokevirtual 63, 3), (5, .istore_n 2, 1), (6, .aload_n 0, 1), (7, .iload_n 2, 1), (8, .invokestatic 84, 3), (11, .invokevirtual 67, 3), (14, .istore_n 3, 1), (15, .aload_n 0, 1), (16, .iload_n 2, 1), (17, .invokestatic 87, 3), (20, .invokevirtual 67, 3), (23, .istore 4, 2), (25, .iload_n 3, 1), (26, .iconst (-1), 1), (27, .if_icmp .ne 7, 3), (30, .iconst 0, 1), (31, .goto 4, 3), (34, .iconst 1, 1), (35, .iload 4, 2), (37, .iconst (-1), 1), (38, .if_icmp .ne 7, 3), (41, .iconst 0, 1), (42, .goto 4, 3), (45, .iconst 1, 1), (46, .iadd, 1), (47, .ireturn, 1)]
set_option maxRecDepth 100000 in
theorem zzk_17 : ∀ q ∈ zzc_17, decode cX0_neighbours q.1 = .ok q.2 := by decide +kernel
def zzc_18 : List (Nat × Instr × Nat) := [(0, .aload_n 0, 1), (1, .iload_n 1, 1), (2, .invokevirtual 63, 3), (5, .istore_n 2, 1), (6, .aload_n 0, 1), (7, .aload_n 0, 1), (8, .iload_n 2, 1), (9, .invokestatic 84, 3), (12, .invokevirtual 67, 3), (15, .invokevirtual 81, 3), (18, .ifCond .ne 18, 3), (21, .aload_n 0, 1), (22, .aload_n 0, 1), (23, .iload_n 2, 1), (24, .invokestatic 87, 3), (27, .invokevirtual 67, 3), (30, .invokevirtual 81, 3), (33, .ifCond .eq 7, 3), (36, .iconst 1, 1), (37, .goto 4, 3), (40, .iconst 0, 1), (41, .ireturn, 1)]
set_option maxRecDepth 100000 in
theorem zzk_18 : ∀ q ∈ zzc_18, decode cX0_isWatched q.1 = .ok q.2 := by decide +kernel
def zzc_19 : List (Nat × Instr × Nat) := [(0, .aload_n 0, 1), (1, .iload_n 1, 1), (2, .invokevirtual 90, 3), (5, .ifCond .eq 19, 3), (8, .aload_n 0, 1), (9, .getfield 28, 3), (12, .iload_n 1, 1), (13, .invokestatic 59, 3), (16, .iconst 5, 1), (17, .if_icmp .ne 7, 3), (20, .iconst 1, 1), (21, .goto 4, 3), (24, .iconst 0, 1), (25, .ireturn, 1)]
set_option maxRecDepth 100000 in
theorem zzk_19 : ∀ q ∈ zzc_19, decode cX0_isTeacher q.1 = .ok q.2 := by decide +kernel
def zzc_20_0 : List (Nat × Instr × Nat) := [(0, .aload_n 0, 1), (1, .iload_n 2, 1), (2, .invokevirtual 63, 3), (5, .istore 4, 2), (7, .aload_n 0, 1), (8, .getfield 48, 3), (11, .iconst 0, 1), (12, .iload 4, 2), (14, .iconst 4, 1), (15, .idiv, 1), (16, .invokestatic 55, 3), (19, .aload_n 0, 1), (20, .getfield 48, 3), (23, .iconst 1, 1), (24, .iload 4, 2), (26, .iconst 4, 1), (27, .irem, 1), (28, .invokestatic 55, 3), (31, .aload_n 0, 1), (32, .getfield 48, 3), (35, .iconst 2, 1), (36, .iload_n 3, 1), (37, .invokestatic 55, 3), (40, .aload_n 0, 1), (41, .getfield 48, 3), (44, .iconst 3, 1), (45, .aload_n 0, 1), (46, .iload_n 2, 1), (47, .invokevirtual 93, 3), (50, .invokestatic 55, 3), (53, .aload_n 0, 1), (54, .getfield 48, 3), (57, .iconst 4, 1), (58, .aload_n 0, 1), (59, .iload_n 2, 1), (60, .invokevirtual 96, 3), (63, .invokestatic 55, 3), (66, .aload_n 0, 1), (67, .getfield 48, 3), (70, .iconst 5, 1), (71, .aload_n 0, 1), (72, .iload_n 2, 1), (73, .aload_n 0, 1), (74, .iload_n 2, 1), (75, .invokevirtual 99, 3), (78, .invokevirtual 102, 3), (81, .ifCond .eq 7, 3), (84, .iconst 1, 1), (85, .goto 4, 3), (88, .iconst 0, 1)]
set_option maxRecDepth 100000 in
theorem zzk_20_0 : ∀ q ∈ zzc_20_0, decode cX0_telling q.1 = .ok q.2 := by decide +kernel
def zzc_20_1 : List (Nat × Instr × Nat) := [(89, .invokestatic 55, 3), (92, .aload_n 0, 1), (93, .getfield 9, 3), (96, .aload_n 0, 1), (97, .getfield 22, 3), (100, .iload_n 1, 1), (101, .aload_n 0, 1), (102, .getfield 48, 3), (105, .invokevirtual 106, 3), (108, .istore 5, 2), (110, .iload 5, 2), (112, .iload_n 1, 1), (113, .iconst 2, 1), (114, .if_icmp .ne 8, 3), (117, .bipush (-99), 2), (119, .goto 4, 3), (122, .iconst 0, 1), (123, .bipush 99, 2), (125, .invokestatic 112, 3), (128, .ireturn, 1)]
set_option maxRecDepth 100000 in
theorem zzk_20_1 : ∀ q ∈ zzc_20_1, decode cX0_telling q.1 = .ok q.2 := by decide +kernel
def zzc_20 : List (Nat × Instr × Nat) := zzc_20_0 ++ (zzc_20_1)
theorem zzk_20 : ∀ q ∈ zzc_20, decode cX0_telling q.1 = .ok q.2 := List.forall_mem_append.mpr ⟨zzk_20_0, zzk_20_1⟩
def zzc_21 : List (Nat × Instr × Nat) := [(0, .aload_n 0, 1), (1, .iload_n 1, 1), (2, .invokevirtual 77, 3), (5, .ifCond .ne 5, 3), (8, .iconst 0, 1), (9, .ireturn, 1), (10, .aload_n 0, 1), (11, .iconst 0, 1), (12, .iload_n 1, 1), (13, .aload_n 0, 1), (14, .getfield 15, 3), (17, .invokevirtual 116, 3), (20, .istore_n 2, 1), (21, .aload_n 0, 1), (22, .iload_n 1, 1), (23, .invokevirtual 63, 3), (26, .iconst 4, 1), (27, .idiv, 1), (28, .istore_n 3, 1), (29, .aload_n 0, 1), (30, .iload_n 1, 1), (31, .invokevirtual 119, 3), (34, .iload_n 2, 1), (35, .iload_n 3, 1), (36, .aload_n 0, 1), (37, .iload_n 1, 1), (38, .invokevirtual 93, 3), (41, .aload_n 0, 1), (42, .iload_n 1, 1), (43, .invokevirtual 122, 3), (46, .invokestatic 125, 3), (49, .iconst 0, 1), (50, .sipush 999, 3), (53, .invokestatic 112, 3), (56, .ireturn, 1)]
set_option maxRecDepth 100000 in
theorem zzk_21 : ∀ q ∈ zzc_21, decode cX0_noise q.1 = .ok q.2 := by decide +kernel
def zzc_22 : List (Nat × Instr × Nat) := [(0, .aload_n 0, 1), (1, .iload_n 1, 1), (2, .invokevirtual 77, 3), (5, .ifCond .ne 5, 3), (8, .iconst 0, 1), (9, .ireturn, 1), (10, .aload_n 0, 1), (11, .iconst 1, 1), (12, .iload_n 1, 1), (13, .iload_n 2, 1), (14, .invokevirtual 116, 3), (17, .istore_n 3, 1), (18, .aload_n 0, 1), (19, .iload_n 1, 1), (20, .invokevirtual 119, 3), (23, .iload_n 3, 1), (24, .aload_n 0, 1), (25, .iload_n 1, 1), (26, .invokevirtual 63, 3), (29, .iconst 4, 1), (30, .idiv, 1), (31, .invokestatic 129, 3), (34, .iconst 0, 1), (35, .bipush 99, 2), (37, .invokestatic 112, 3), (40, .ireturn, 1)]
set_option maxRecDepth 100000 in
theorem zzk_22 : ∀ q ∈ zzc_22, decode cX0_queasy q.1 = .ok q.2 := by decide +kernel
def zzc_23 : List (Nat × Instr × Nat) := [(0, .aload_n 0, 1), (1, .iload_n 1, 1), (2, .invokevirtual 77, 3), (5, .ifCond .ne 5, 3), (8, .iconst 0, 1), (9, .ireturn, 1), (10, .aload_n 0, 1), (11, .iconst 2, 1), (12, .iload_n 1, 1), (13, .aload_n 0, 1), (14, .getfield 15, 3), (17, .invokevirtual 116, 3), (20, .istore_n 2, 1), (21, .aload_n 0, 1), (22, .iload_n 1, 1), (23, .invokevirtual 119, 3), (26, .iload_n 2, 1), (27, .aload_n 0, 1), (28, .iload_n 1, 1), (29, .invokevirtual 63, 3), (32, .iconst 4, 1), (33, .idiv, 1), (34, .aload_n 0, 1), (35, .iload_n 1, 1), (36, .aload_n 0, 1), (37, .iload_n 1, 1), (38, .invokevirtual 99, 3), (41, .invokevirtual 102, 3), (44, .invokestatic 132, 3), (47, .ireturn, 1)]
set_option maxRecDepth 100000 in
theorem zzk_23 : ∀ q ∈ zzc_23, decode cX0_glad q.1 = .ok q.2 := by decide +kernel
def zzc_24 : List (Nat × Instr × Nat) := [(0, .iconst 0, 1), (1, .istore_n 1, 1), (2, .iconst 0, 1), (3, .istore_n 2, 1), (4, .iload_n 2, 1), (5, .aload_n 0, 1), (6, .getfield 25, 3), (9, .if_icmp .ge 17, 3), (12, .iload_n 1, 1), (13, .aload_n 0, 1), (14, .iload_n 2, 1), (15, .invokevirtual 136, 3), (18, .iadd, 1), (19, .istore_n 1, 1), (20, .iinc 2 1, 3), (23, .goto (-19), 3), (26, .iload_n 1, 1), (27, .ireturn, 1)]
set_option maxRecDepth 100000 in
theorem zzk_24 : ∀ q ∈ zzc_24, decode cX0_din q.1 = .ok q.2 := by decide +kernel
def zzc_25 : List (Nat × Instr × Nat) := [(0, .iconst 0, 1), (1, .istore_n 1, 1), (2, .iconst 0, 1), (3, .istore_n 2, 1), (4, .iload_n 2, 1), (5, .aload_n 0, 1), (6, .getfield 25, 3), (9, .if_icmp .ge 17, 3), (12, .iload_n 1, 1), (13, .aload_n 0, 1), (14, .iload_n 2, 1), (15, .invokevirtual 139, 3), (18, .iadd, 1), (19, .istore_n 1, 1), (20, .iinc 2 1, 3), (23, .goto (-19), 3), (26, .iload_n 1, 1), (27, .ireturn, 1)]
set_option maxRecDepth 100000 in
theorem zzk_25 : ∀ q ∈ zzc_25, decode cX0_joy q.1 = .ok q.2 := by decide +kernel
def zzc_26 : List (Nat × Instr × Nat) := [(0, .iconst 0, 1), (1, .istore_n 1, 1), (2, .iconst 0, 1), (3, .istore_n 2, 1), (4, .iload_n 2, 1), (5, .aload_n 0, 1), (6, .getfield 25, 3), (9, .if_icmp .ge 25, 3), (12, .iload_n 1, 1), (13, .aload_n 0, 1), (14, .iload_n 2, 1), (15, .invokevirtual 77, 3), (18, .ifCond .eq 7, 3), (21, .iconst 1, 1), (22, .goto 4, 3), (25, .iconst 0, 1), (26, .iadd, 1), (27, .istore_n 1, 1), (28, .iinc 2 1, 3), (31, .goto (-27), 3), (34, .iload_n 1, 1), (35, .ireturn, 1)]
set_option maxRecDepth 100000 in
theorem zzk_26 : ∀ q ∈ zzc_26, decode cX0_sitting q.1 = .ok q.2 := by decide +kernel
def zzc_27 : List (Nat × Instr × Nat) := [(0, .iconst 0, 1), (1, .istore_n 1, 1), (2, .iconst 0, 1), (3, .istore_n 2, 1), (4, .iload_n 2, 1), (5, .aload_n 0, 1), (6, .getfield 25, 3), (9, .if_icmp .ge 33, 3), (12, .iload_n 1, 1), (13, .aload_n 0, 1), (14, .iload_n 2, 1), (15, .invokevirtual 77, 3), (18, .ifCond .eq 15, 3), (21, .aload_n 0, 1), (22, .iload_n 2, 1), (23, .invokevirtual 96, 3), (26, .ifCond .ne 7, 3), (29, .iconst 1, 1), (30, .goto 4, 3), (33, .iconst 0, 1), (34, .iadd, 1), (35, .istore_n 1, 1), (36, .iinc 2 1, 3), (39, .goto (-35), 3), (42, .iload_n 1, 1), (43, .ireturn, 1)]
set_option maxRecDepth 100000 in
theorem zzk_27 : ∀ q ∈ zzc_27, decode cX0_alone q.1 = .ok q.2 := by decide +kernel
def zzc_28 : List (Nat × Instr × Nat) := [(0, .iconst 0, 1), (1, .istore_n 2, 1), (2, .iconst 0, 1), (3, .istore_n 3, 1), (4, .iload_n 3, 1), (5, .aload_n 0, 1), (6, .getfield 25, 3), (9, .if_icmp .ge 28, 3), (12, .aload_n 0, 1), (13, .iload_n 3, 1), (14, .invokevirtual 136, 3), (17, .aload_n 1, 1), (18, .iload_n 3, 1), (19, .invokevirtual 142, 3), (22, .if_icmp .eq 9, 3), (25, .iload_n 2, 1), (26, .iconst 1, 1), (27, .iload_n 3, 1), (28, .ishl, 1), (29, .ior, 1), (30, .istore_n 2, 1), (31, .iinc 3 1, 3), (34, .goto (-30), 3), (37, .iload_n 2, 1), (38, .ireturn, 1)]
set_option maxRecDepth 100000 in
theorem zzk_28 : ∀ q ∈ zzc_28, decode cX0_otherwise q.1 = .ok q.2 := by decide +kernel
def zzc_29 : List (Nat × Instr × Nat) := [(0, .aload_n 0, 1), (1, .invokespecial 3, 3), (4, .aload_n 0, 1), (5, .bipush 6, 2), (7, .newarray .int, 2), (9, .putfield 9, 3), (12, .aload_n 0, 1), (13, .bipush 6, 2), (15, .newarray .int, 2), (17, .putfield 15, 3), (20, .aload_n 0, 1), (21, .bipush 6, 2), (23, .newarray .int, 2), (25, .putfield 18, 3), (28, .return_, 1)]
set_option maxRecDepth 100000 in
theorem zzk_29 : ∀ q ∈ zzc_29, decode cX1_init q.1 = .ok q.2 := by decide +kernel
def zzc_30_0 : List (Nat × Instr × Nat) := [(0, .aload_n 1, 1), (1, .invokevirtual 21, 3), (4, .ifCond .ne 12, 3), (7, .aload_n 1, 1), (8, .getfield 27, 3), (11, .iconst 2, 1), (12, .irem, 1), (13, .ifCond .eq 5, 3), (16, .iconst 0, 1), (17, .ireturn, 1), (18, .aload_n 0, 1), (19, .aload_n 1, 1), (20, .getfield 27, 3), (23, .iconst 2, 1), (24, .idiv, 1), (25, .putfield 31, 3), (28, .aload_n 0, 1), (29, .getfield 31, 3), (32, .iconst 1, 1), (33, .if_icmp .lt 12, 3), (36, .aload_n 0, 1), (37, .getfield 31, 3), (40, .bipush 6, 2), (42, .if_icmp .le 5, 3), (45, .iconst 0, 1), (46, .ireturn, 1), (47, .iconst 0, 1), (48, .istore_n 3, 1), (49, .iload_n 3, 1), (50, .aload_n 0, 1), (51, .getfield 31, 3), (54, .if_icmp .ge 40, 3), (57, .aload_n 0, 1), (58, .getfield 9, 3), (61, .iload_n 3, 1), (62, .aload_n 1, 1), (63, .iload_n 3, 1), (64, .invokevirtual 32, 3), (67, .invokestatic 36, 3), (70, .aload_n 0, 1), (71, .getfield 15, 3), (74, .iload_n 3, 1), (75, .aload_n 1, 1), (76, .aload_n 0, 1), (77, .getfield 31, 3), (80, .iload_n 3, 1), (81, .iadd, 1), (82, .invokevirtual 32, 3), (85, .invokestatic 36, 3), (88, .iinc 3 1, 3)]
set_option maxRecDepth 100000 in
theorem zzk_30_0 : ∀ q ∈ zzc_30_0, decode cX1_takes q.1 = .ok q.2 := by decide +kernel
def zzc_30_1 : List (Nat × Instr × Nat) := [(91, .goto (-42), 3), (94, .aload_n 0, 1), (95, .aload_n 0, 1), (96, .getfield 9, 3), (99, .invokevirtual 40, 3), (102, .ifCond .eq 26, 3), (105, .aload_n 0, 1), (106, .aload_n 0, 1), (107, .getfield 15, 3), (110, .invokevirtual 40, 3), (113, .ifCond .eq 15, 3), (116, .aload_n 0, 1), (117, .aload_n 2, 1), (118, .invokevirtual 44, 3), (121, .ifCond .eq 7, 3), (124, .iconst 1, 1), (125, .goto 4, 3), (128, .iconst 0, 1), (129, .ireturn, 1)]
set_option maxRecDepth 100000 in
theorem zzk_30_1 : ∀ q ∈ zzc_30_1, decode cX1_takes q.1 = .ok q.2 := by decide +kernel
def zzc_30 : List (Nat × Instr × Nat) := zzc_30_0 ++ (zzc_30_1)
theorem zzk_30 : ∀ q ∈ zzc_30, decode cX1_takes q.1 = .ok q.2 := List.forall_mem_append.mpr ⟨zzk_30_0, zzk_30_1⟩
def zzc_31 : List (Nat × Instr × Nat) := [(0, .iconst 0, 1), (1, .istore_n 2, 1), (2, .iload_n 2, 1), (3, .aload_n 0, 1), (4, .getfield 31, 3), (7, .if_icmp .ge 37, 3), (10, .iconst 0, 1), (11, .istore_n 3, 1), (12, .iload_n 3, 1), (13, .iload_n 2, 1), (14, .if_icmp .ge 24, 3), (17, .aload_n 1, 1), (18, .iload_n 2, 1), (19, .invokestatic 48, 3), (22, .aload_n 1, 1), (23, .iload_n 3, 1), (24, .invokestatic 48, 3), (27, .if_icmp .ne 5, 3), (30, .iconst 0, 1), (31, .ireturn, 1), (32, .iinc 3 1, 3), (35, .goto (-23), 3), (38, .iinc 2 1, 3), (41, .goto (-39), 3), (44, .iconst 1, 1), (45, .ireturn, 1)]
set_option maxRecDepth 100000 in
theorem zzk_31 : ∀ q ∈ zzc_31, decode cX1_isUnlike q.1 = .ok q.2 := by decide +kernel
def zzc_32 : List (Nat × Instr × Nat) := [(0, .iconst 0, 1), (1, .istore_n 2, 1), (2, .iload_n 2, 1), (3, .aload_n 0, 1), (4, .getfield 31, 3), (7, .if_icmp .ge 69, 3), (10, .aload_n 0, 1), (11, .getfield 15, 3), (14, .iload_n 2, 1), (15, .invokestatic 48, 3), (18, .istore_n 3, 1), (19, .aload_n 1, 1), (20, .aload_n 0, 1), (21, .getfield 9, 3), (24, .iload_n 2, 1), (25, .invokestatic 48, 3), (28, .invokevirtual 52, 3), (31, .ifCond .eq 13, 3), (34, .iload_n 3, 1), (35, .ifCond .lt 9, 3), (38, .iload_n 3, 1), (39, .bipush 24, 2), (41, .if_icmp .lt 5, 3), (44, .iconst 0, 1), (45, .ireturn, 1), (46, .aload_n 1, 1), (47, .iload_n 3, 1), (48, .invokevirtual 58, 3), (51, .istore 4, 2), (53, .iload 4, 2), (55, .iconst (-1), 1), (56, .if_icmp .eq 14, 3), (59, .aload_n 0, 1), (60, .iload 4, 2), (62, .invokevirtual 61, 3), (65, .ifCond .ne 5, 3), (68, .iconst 0, 1), (69, .ireturn, 1), (70, .iinc 2 1, 3), (73, .goto (-71), 3), (76, .iconst 1, 1), (77, .ireturn, 1)]
set_option maxRecDepth 100000 in
theorem zzk_32 : ∀ q ∈ zzc_32, decode cX1_isAllThere q.1 = .ok q.2 := by decide +kernel
def zzc_33 : List (Nat × Instr × Nat) := [(0, .iconst 0, 1), (1, .istore_n 2, 1), (2, .iload_n 2, 1), (3, .aload_n 0, 1), (4, .getfield 31, 3), (7, .if_icmp .ge 23, 3), (10, .aload_n 0, 1), (11, .getfield 9, 3), (14, .iload_n 2, 1), (15, .invokestatic 48, 3), (18, .iload_n 1, 1), (19, .if_icmp .ne 5, 3), (22, .iconst 1, 1), (23, .ireturn, 1), (24, .iinc 2 1, 3), (27, .goto (-25), 3), (30, .iconst 0, 1), (31, .ireturn, 1)]
set_option maxRecDepth 100000 in
theorem zzk_33 : ∀ q ∈ zzc_33, decode cX1_isTold q.1 = .ok q.2 := by decide +kernel
def zzc_34 : List (Nat × Instr × Nat) := [(0, .iconst 0, 1), (1, .istore_n 2, 1), (2, .iload_n 2, 1), (3, .aload_n 0, 1), (4, .getfield 31, 3), (7, .if_icmp .ge 18, 3), (10, .aload_n 0, 1), (11, .getfield 18, 3), (14, .iload_n 2, 1), (15, .iload_n 2, 1), (16, .invokestatic 36, 3), (19, .iinc 2 1, 3), (22, .goto (-20), 3), (25, .iconst 1, 1), (26, .istore_n 2, 1), (27, .iconst 0, 1), (28, .istore_n 3, 1), (29, .iload_n 3, 1), (30, .sipush 720, 3), (33, .if_icmp .ge 56, 3), (36, .iload_n 2, 1), (37, .ifCond .eq 52, 3), (40, .aload_n 0, 1), (41, .aload_n 1, 1), (42, .invokevirtual 64, 3), (45, .aload_n 1, 1), (46, .invokevirtual 68, 3), (49, .istore 4, 2), (51, .iload_n 3, 1), (52, .ifCond .eq 12, 3), (55, .iload 4, 2), (57, .aload_n 0, 1), (58, .getfield 72, 3), (61, .if_icmp .le 17, 3), (64, .aload_n 0, 1), (65, .iload 4, 2), (67, .putfield 72, 3), (70, .aload_n 0, 1), (71, .aload_n 0, 1), (72, .invokevirtual 75, 3), (75, .putfield 78, 3), (78, .aload_n 0, 1), (79, .invokevirtual 81, 3), (82, .istore_n 2, 1), (83, .iinc 3 1, 3), (86, .goto (-57), 3), (89, .return_, 1)]
set_option maxRecDepth 100000 in
theorem zzk_34 : ∀ q ∈ zzc_34, decode cX1_seek q.1 = .ok q.2 := by decide +kernel
def zzc_35 : List (Nat × Instr × Nat) := [(0, .iconst 0, 1), (1, .istore_n 2, 1), (2, .iload_n 2, 1), (3, .aload_n 0, 1), (4, .getfield 31, 3), (7, .if_icmp .ge 22, 3), (10, .aload_n 1, 1), (11, .aload_n 0, 1), (12, .getfield 9, 3), (15, .iload_n 2, 1), (16, .invokestatic 48, 3), (19, .iconst (-1), 1), (20, .invokevirtual 84, 3), (23, .iinc 2 1, 3), (26, .goto (-24), 3), (29, .iconst 0, 1), (30, .istore_n 2, 1), (31, .iload_n 2, 1), (32, .aload_n 0, 1), (33, .getfield 31, 3), (36, .if_icmp .ge 36, 3), (39, .aload_n 1, 1), (40, .aload_n 0, 1), (41, .getfield 9, 3), (44, .aload_n 0, 1), (45, .getfield 18, 3), (48, .iload_n 2, 1), (49, .invokestatic 48, 3), (52, .invokestatic 48, 3), (55, .aload_n 0, 1), (56, .getfield 15, 3), (59, .iload_n 2, 1), (60, .invokestatic 48, 3), (63, .invokevirtual 84, 3), (66, .iinc 2 1, 3), (69, .goto (-38), 3), (72, .return_, 1)]
set_option maxRecDepth 100000 in
theorem zzk_35 : ∀ q ∈ zzc_35, decode cX1_seatAll q.1 = .ok q.2 := by decide +kernel
def zzc_36 : List (Nat × Instr × Nat) := [(0, .iconst 0, 1), (1, .istore_n 1, 1), (2, .iconst 0, 1), (3, .istore_n 2, 1), (4, .iload_n 2, 1), (5, .aload_n 0, 1), (6, .getfield 31, 3), (9, .if_icmp .ge 25, 3), (12, .iload_n 1, 1), (13, .bipush 10, 2), (15, .imul, 1), (16, .aload_n 0, 1), (17, .getfield 18, 3), (20, .iload_n 2, 1), (21, .invokestatic 48, 3), (24, .iadd, 1), (25, .iconst 1, 1), (26, .iadd, 1), (27, .istore_n 1, 1), (28, .iinc 2 1, 3), (31, .goto (-27), 3), (34, .iload_n 1, 1), (35, .ireturn, 1)]
set_option maxRecDepth 100000 in
theorem zzk_36 : ∀ q ∈ zzc_36, decode cX1_digits q.1 = .ok q.2 := by decide +kernel
def zzc_37_0 : List (Nat × Instr × Nat) := [(0, .aload_n 0, 1), (1, .getfield 31, 3), (4, .iconst 2, 1), (5, .isub, 1), (6, .istore_n 1, 1), (7, .iload_n 1, 1), (8, .ifCond .lt 30, 3), (11, .aload_n 0, 1), (12, .getfield 18, 3), (15, .iload_n 1, 1), (16, .invokestatic 48, 3), (19, .aload_n 0, 1), (20, .getfield 18, 3), (23, .iload_n 1, 1), (24, .iconst 1, 1), (25, .iadd, 1), (26, .invokestatic 48, 3), (29, .if_icmp .le 9, 3), (32, .iinc 1 (-1), 3), (35, .goto (-28), 3), (38, .iload_n 1, 1), (39, .ifCond .ge 5, 3), (42, .iconst 0, 1), (43, .ireturn, 1), (44, .aload_n 0, 1), (45, .getfield 31, 3), (48, .iconst 1, 1), (49, .isub, 1), (50, .istore_n 2, 1), (51, .iload_n 2, 1), (52, .iload_n 1, 1), (53, .if_icmp .le 28, 3), (56, .aload_n 0, 1), (57, .getfield 18, 3), (60, .iload_n 2, 1), (61, .invokestatic 48, 3), (64, .aload_n 0, 1), (65, .getfield 18, 3), (68, .iload_n 1, 1), (69, .invokestatic 48, 3), (72, .if_icmp .ge 9, 3), (75, .iinc 2 (-1), 3), (78, .goto (-27), 3), (81, .aload_n 0, 1), (82, .iload_n 1, 1), (83, .iload_n 2, 1), (84, .invokevirtual 88, 3), (87, .iload_n 1, 1), (88, .iconst 1, 1), (89, .iadd, 1)]
set_option maxRecDepth 100000 in
theorem zzk_37_0 : ∀ q ∈ zzc_37_0, decode cX1_nextOrder q.1 = .ok q.2 := by decide +kernel
def zzc_37_1 : List (Nat × Instr × Nat) := [(90, .istore_n 3, 1), (91, .aload_n 0, 1), (92, .getfield 31, 3), (95, .iconst 1, 1), (96, .isub, 1), (97, .istore 4, 2), (99, .iload_n 3, 1), (100, .iload 4, 2), (102, .if_icmp .ge 19, 3), (105, .aload_n 0, 1), (106, .iload_n 3, 1), (107, .iload 4, 2), (109, .invokevirtual 88, 3), (112, .iinc 3 1, 3), (115, .iinc 4 (-1), 3), (118, .goto (-19), 3), (121, .iconst 1, 1), (122, .ireturn, 1)]
set_option maxRecDepth 100000 in
theorem zzk_37_1 : ∀ q ∈ zzc_37_1, decode cX1_nextOrder q.1 = .ok q.2 := by decide +kernel
def zzc_37 : List (Nat × Instr × Nat) := zzc_37_0 ++ (zzc_37_1)
theorem zzk_37 : ∀ q ∈ zzc_37, decode cX1_nextOrder q.1 = .ok q.2 := List.forall_mem_append.mpr ⟨zzk_37_0, zzk_37_1⟩
def zzc_38 : List (Nat × Instr × Nat) := [(0, .aload_n 0, 1), (1, .getfield 18, 3), (4, .iload_n 1, 1), (5, .invokestatic 48, 3), (8, .istore_n 3, 1), (9, .aload_n 0, 1), (10, .getfield 18, 3), (13, .iload_n 1, 1), (14, .aload_n 0, 1), (15, .getfield 18, 3), (18, .iload_n 2, 1), (19, .invokestatic 48, 3), (22, .invokestatic 36, 3), (25, .aload_n 0, 1), (26, .getfield 18, 3), (29, .iload_n 2, 1), (30, .iload_n 3, 1), (31, .invokestatic 36, 3), (34, .return_, 1)]
set_option maxRecDepth 100000 in
theorem zzk_38 : ∀ q ∈ zzc_38, decode cX1_swapPlaces q.1 = .ok q.2 := by decide +kernel
def zzc_39 : List (Nat × Instr × Nat) := [(0, .aload_n 0, 1), (1, .invokespecial 3, 3), (4, .aload_n 0, 1), (5, .aload_n 1, 1), (6, .putfield 9, 3), (9, .aload_n 0, 1), (10, .sipush 160, 3), (13, .newarray .int, 2), (15, .putfield 15, 3), (18, .aload_n 0, 1), (19, .iconst 0, 1), (20, .putfield 19, 3), (23, .aload_n 0, 1), (24, .iconst (-1), 1), (25, .putfield 23, 3), (28, .return_, 1)]
set_option maxRecDepth 100000 in
theorem zzk_39 : ∀ q ∈ zzc_39, decode cX2_init q.1 = .ok q.2 := by decide +kernel
def zzc_40 : List (Nat × Instr × Nat) := [(0, .aload_n 0, 1), (1, .getfield 15, 3), (4, .aload_n 0, 1), (5, .getfield 19, 3), (8, .iload_n 1, 1), (9, .invokestatic 26, 3), (12, .aload_n 0, 1), (13, .dup, 1), (14, .getfield 19, 3), (17, .iconst 1, 1), (18, .iadd, 1), (19, .putfield 19, 3), (22, .aload_n 0, 1), (23, .getfield 19, 3), (26, .ireturn, 1)]
set_option maxRecDepth 100000 in
theorem zzk_40 : ∀ q ∈ zzc_40, decode cX2_append q.1 = .ok q.2 := by decide +kernel
def zzc_41_0 : List (Nat × Instr × Nat) := [(0, .aload_n 0, 1), (1, .iconst 0, 1), (2, .putfield 30, 3), (5, .aload_n 0, 1), (6, .iconst (-1), 1), (7, .putfield 23, 3), (10, .aload_n 0, 1), (11, .getfield 9, 3), (14, .invokevirtual 33, 3), (17, .aload_n 0, 1), (18, .invokevirtual 38, 3), (21, .iconst 0, 1), (22, .istore_n 1, 1), (23, .iload_n 1, 1), (24, .iconst 3, 1), (25, .if_icmp .ge 38, 3), (28, .aload_n 0, 1), (29, .sipush 10006, 3), (32, .iload_n 1, 1), (33, .iadd, 1), (34, .invokevirtual 41, 3), (37, .aload_n 0, 1), (38, .iconst 0, 1), (39, .invokevirtual 45, 3), (42, .aload_n 0, 1), (43, .sipush 11059, 3), (46, .invokevirtual 41, 3), (49, .aload_n 0, 1), (50, .getfield 9, 3), (53, .iload_n 1, 1), (54, .invokevirtual 48, 3), (57, .iinc 1 1, 3), (60, .goto (-37), 3), (63, .aload_n 0, 1), (64, .getfield 51, 3), (67, .iconst (-1), 1), (68, .if_icmp .eq 7, 3), (71, .aload_n 0, 1), (72, .invokevirtual 54, 3), (75, .aload_n 0, 1), (76, .getfield 23, 3), (79, .iconst (-1), 1), (80, .if_icmp .ne 10, 3), (83, .aload_n 0, 1), (84, .getfield 9, 3), (87, .invokevirtual 57, 3), (90, .aload_n 0, 1), (91, .iconst 0, 1), (92, .putfield 19, 3), (95, .aload_n 0, 1)]
set_option maxRecDepth 100000 in
theorem zzk_41_0 : ∀ q ∈ zzc_41_0, decode cX2_read q.1 = .ok q.2 := by decide +kernel
def zzc_41_1 : List (Nat × Instr × Nat) := [(96, .getfield 23, 3), (99, .ireturn, 1)]
set_option maxRecDepth 100000 in
theorem zzk_41_1 : ∀ q ∈ zzc_41_1, decode cX2_read q.1 = .ok q.2 := by decide +kernel
def zzc_41 : List (Nat × Instr × Nat) := zzc_41_0 ++ (zzc_41_1)
theorem zzk_41 : ∀ q ∈ zzc_41, decode cX2_read q.1 = .ok q.2 := List.forall_mem_append.mpr ⟨zzk_41_0, zzk_41_1⟩
def zzc_42 : List (Nat × Instr × Nat) := [(0, .aload_n 0, 1), (1, .iload_n 1, 1), (2, .invokevirtual 60, 3), (5, .iconst 0, 1), (6, .istore_n 2, 1), (7, .iload_n 2, 1), (8, .sipush 160, 3), (11, .if_icmp .ge 38, 3), (14, .aload_n 0, 1), (15, .getfield 51, 3), (18, .sipush 10009, 3), (21, .if_icmp .ne 28, 3), (24, .aload_n 0, 1), (25, .invokevirtual 38, 3), (28, .aload_n 0, 1), (29, .iload_n 1, 1), (30, .invokevirtual 60, 3), (33, .aload_n 0, 1), (34, .getfield 9, 3), (37, .sipush 10009, 3), (40, .invokevirtual 63, 3), (43, .iinc 2 1, 3), (46, .goto (-39), 3), (49, .return_, 1)]
set_option maxRecDepth 100000 in
theorem zzk_42 : ∀ q ∈ zzc_42, decode cX2_readOr q.1 = .ok q.2 := by decide +kernel
def zzc_43 : List (Nat × Instr × Nat) := [(0, .aload_n 0, 1), (1, .iload_n 1, 1), (2, .invokevirtual 66, 3), (5, .iconst 0, 1), (6, .istore_n 2, 1), (7, .iload_n 2, 1), (8, .sipush 160, 3), (11, .if_icmp .ge 38, 3), (14, .aload_n 0, 1), (15, .getfield 51, 3), (18, .sipush 10010, 3), (21, .if_icmp .ne 28, 3), (24, .aload_n 0, 1), (25, .invokevirtual 38, 3), (28, .aload_n 0, 1), (29, .iload_n 1, 1), (30, .invokevirtual 66, 3), (33, .aload_n 0, 1), (34, .getfield 9, 3), (37, .sipush 10010, 3), (40, .invokevirtual 63, 3), (43, .iinc 2 1, 3), (46, .goto (-39), 3), (49, .return_, 1)]
set_option maxRecDepth 100000 in
theorem zzk_43 : ∀ q ∈ zzc_43, decode cX2_readAnd q.1 = .ok q.2 := by decide +kernel
def zzc_44 : List (Nat × Instr × Nat) := [(0, .aload_n 0, 1), (1, .getfield 51, 3), (4, .sipush 10011, 3), (7, .if_icmp .ne 29, 3), (10, .aload_n 0, 1), (11, .iload_n 1, 1), (12, .invokevirtual 69, 3), (15, .ifCond .eq 20, 3), (18, .aload_n 0, 1), (19, .iload_n 1, 1), (20, .iconst 1, 1), (21, .iadd, 1), (22, .invokevirtual 66, 3), (25, .aload_n 0, 1), (26, .getfield 9, 3), (29, .sipush 10011, 3), (32, .invokevirtual 63, 3), (35, .return_, 1), (36, .aload_n 0, 1), (37, .iload_n 1, 1), (38, .invokevirtual 73, 3), (41, .aload_n 0, 1), (42, .getfield 51, 3), (45, .istore_n 2, 1), (46, .iload_n 2, 1), (47, .sipush 11060, 3), (50, .if_icmp .eq 10, 3), (53, .iload_n 2, 1), (54, .sipush 11061, 3), (57, .if_icmp .ne 20, 3), (60, .aload_n 0, 1), (61, .invokevirtual 38, 3), (64, .aload_n 0, 1), (65, .iload_n 1, 1), (66, .invokevirtual 73, 3), (69, .aload_n 0, 1), (70, .getfield 9, 3), (73, .iload_n 2, 1), (74, .invokevirtual 63, 3), (77, .return_, 1)]
set_option maxRecDepth 100000 in
theorem zzk_44 : ∀ q ∈ zzc_44, decode cX2_readNot q.1 = .ok q.2 := by decide +kernel
def zzc_45 : List (Nat × Instr × Nat) := [(0, .aload_n 0, 1), (1, .iload_n 1, 1), (2, .invokevirtual 76, 3), (5, .iconst 0, 1), (6, .istore_n 2, 1), (7, .iload_n 2, 1), (8, .sipush 160, 3), (11, .if_icmp .ge 51, 3), (14, .aload_n 0, 1), (15, .getfield 51, 3), (18, .sipush 11043, 3), (21, .if_icmp .eq 13, 3), (24, .aload_n 0, 1), (25, .getfield 51, 3), (28, .sipush 11045, 3), (31, .if_icmp .ne 31, 3), (34, .aload_n 0, 1), (35, .getfield 51, 3), (38, .istore_n 3, 1), (39, .aload_n 0, 1), (40, .invokevirtual 38, 3), (43, .aload_n 0, 1), (44, .iload_n 1, 1), (45, .invokevirtual 76, 3), (48, .aload_n 0, 1), (49, .getfield 9, 3), (52, .iload_n 3, 1), (53, .invokevirtual 63, 3), (56, .iinc 2 1, 3), (59, .goto (-52), 3), (62, .return_, 1)]
set_option maxRecDepth 100000 in
theorem zzk_45 : ∀ q ∈ zzc_45, decode cX2_readSum q.1 = .ok q.2 := by decide +kernel
def zzc_46 : List (Nat × Instr × Nat) := [(0, .aload_n 0, 1), (1, .iload_n 1, 1), (2, .invokevirtual 79, 3), (5, .iconst 0, 1), (6, .istore_n 2, 1), (7, .iload_n 2, 1), (8, .sipush 160, 3), (11, .if_icmp .ge 38, 3), (14, .aload_n 0, 1), (15, .getfield 51, 3), (18, .sipush 11042, 3), (21, .if_icmp .ne 28, 3), (24, .aload_n 0, 1), (25, .invokevirtual 38, 3), (28, .aload_n 0, 1), (29, .iload_n 1, 1), (30, .invokevirtual 79, 3), (33, .aload_n 0, 1), (34, .getfield 9, 3), (37, .sipush 11042, 3), (40, .invokevirtual 63, 3), (43, .iinc 2 1, 3), (46, .goto (-39), 3), (49, .return_, 1)]
set_option maxRecDepth 100000 in
theorem zzk_46 : ∀ q ∈ zzc_46, decode cX2_readTerm q.1 = .ok q.2 := by decide +kernel
def zzc_47_0 : List (Nat × Instr × Nat) := [(0, .aload_n 0, 1), (1, .getfield 51, 3), (4, .ifCond .lt 31, 3), (7, .aload_n 0, 1), (8, .getfield 51, 3), (11, .sipush 10005, 3), (14, .if_icmp .gt 21, 3), (17, .aload_n 0, 1), (18, .getfield 9, 3), (21, .aload_n 0, 1), (22, .getfield 51, 3), (25, .invokevirtual 63, 3), (28, .aload_n 0, 1), (29, .invokevirtual 38, 3), (32, .goto 80, 3), (35, .aload_n 0, 1), (36, .getfield 51, 3), (39, .sipush 11045, 3), (42, .if_icmp .ne 31, 3), (45, .aload_n 0, 1), (46, .iload_n 1, 1), (47, .invokevirtual 69, 3), (50, .ifCond .eq 62, 3), (53, .aload_n 0, 1), (54, .iload_n 1, 1), (55, .iconst 1, 1), (56, .iadd, 1), (57, .invokevirtual 79, 3), (60, .aload_n 0, 1), (61, .getfield 9, 3), (64, .sipush 10012, 3), (67, .invokevirtual 63, 3), (70, .goto 42, 3), (73, .aload_n 0, 1), (74, .getfield 51, 3), (77, .sipush 11040, 3), (80, .if_icmp .ne 28, 3), (83, .aload_n 0, 1), (84, .iload_n 1, 1), (85, .invokevirtual 69, 3), (88, .ifCond .eq 24, 3), (91, .aload_n 0, 1), (92, .iload_n 1, 1), (93, .iconst 1, 1), (94, .iadd, 1), (95, .invokevirtual 45, 3), (98, .aload_n 0, 1), (99, .sipush 11041, 3), (102, .invokevirtual 41, 3), (105, .goto 7, 3)]
set_option maxRecDepth 100000 in
theorem zzk_47_0 : ∀ q ∈ zzc_47_0, decode cX2_readOne q.1 = .ok q.2 := by decide +kernel
def zzc_47_1 : List (Nat × Instr × Nat) := [(108, .aload_n 0, 1), (109, .invokevirtual 54, 3), (112, .return_, 1)]
set_option maxRecDepth 100000 in
theorem zzk_47_1 : ∀ q ∈ zzc_47_1, decode cX2_readOne q.1 = .ok q.2 := by decide +kernel
def zzc_47 : List (Nat × Instr × Nat) := zzc_47_0 ++ (zzc_47_1)
theorem zzk_47 : ∀ q ∈ zzc_47, decode cX2_readOne q.1 = .ok q.2 := List.forall_mem_append.mpr ⟨zzk_47_0, zzk_47_1⟩
def zzc_48 : List (Nat × Instr × Nat) := [(0, .iload_n 1, 1), (1, .iconst 5, 1), (2, .if_icmp .lt 9, 3), (5, .aload_n 0, 1), (6, .invokevirtual 54, 3), (9, .iconst 0, 1), (10, .ireturn, 1), (11, .aload_n 0, 1), (12, .invokevirtual 38, 3), (15, .iconst 1, 1), (16, .ireturn, 1)]
set_option maxRecDepth 100000 in
theorem zzk_48 : ∀ q ∈ zzc_48, decode cX2_opens q.1 = .ok q.2 := by decide +kernel
def zzc_49 : List (Nat × Instr × Nat) := [(0, .aload_n 0, 1), (1, .getfield 51, 3), (4, .iload_n 1, 1), (5, .if_icmp .ne 10, 3), (8, .aload_n 0, 1), (9, .invokevirtual 38, 3), (12, .goto 7, 3), (15, .aload_n 0, 1), (16, .invokevirtual 54, 3), (19, .return_, 1)]
set_option maxRecDepth 100000 in
theorem zzk_49 : ∀ q ∈ zzc_49, decode cX2_expect q.1 = .ok q.2 := by decide +kernel
def zzc_50 : List (Nat × Instr × Nat) := [(0, .aload_n 0, 1), (1, .getfield 23, 3), (4, .iconst (-1), 1), (5, .if_icmp .ne 11, 3), (8, .aload_n 0, 1), (9, .aload_n 0, 1), (10, .getfield 82, 3), (13, .putfield 23, 3), (16, .aload_n 0, 1), (17, .bipush (-2), 2), (19, .putfield 51, 3), (22, .return_, 1)]
set_option maxRecDepth 100000 in
theorem zzk_50 : ∀ q ∈ zzc_50, decode cX2_fail q.1 = .ok q.2 := by decide +kernel
def zzc_51 : List (Nat × Instr × Nat) := [(0, .aload_n 0, 1), (1, .getfield 30, 3), (4, .aload_n 0, 1), (5, .getfield 19, 3), (8, .if_icmp .ge 30, 3), (11, .aload_n 0, 1), (12, .aload_n 0, 1), (13, .getfield 30, 3), (16, .invokevirtual 85, 3), (19, .invokestatic 89, 3), (22, .ifCond .eq 16, 3), (25, .aload_n 0, 1), (26, .dup, 1), (27, .getfield 30, 3), (30, .iconst 1, 1), (31, .iadd, 1), (32, .putfield 30, 3), (35, .goto (-35), 3), (38, .aload_n 0, 1), (39, .aload_n 0, 1), (40, .getfield 30, 3), (43, .putfield 82, 3), (46, .aload_n 0, 1), (47, .aload_n 0, 1), (48, .getfield 30, 3), (51, .invokevirtual 85, 3), (54, .istore_n 1, 1), (55, .iload_n 1, 1), (56, .iconst (-1), 1), (57, .if_icmp .ne 11, 3), (60, .aload_n 0, 1), (61, .iconst (-1), 1), (62, .putfield 51, 3), (65, .goto 36, 3), (68, .iload_n 1, 1), (69, .invokestatic 92, 3), (72, .ifCond .eq 10, 3), (75, .aload_n 0, 1), (76, .invokevirtual 95, 3), (79, .goto 22, 3), (82, .iload_n 1, 1), (83, .invokestatic 98, 3), (86, .ifCond .eq 10, 3), (89, .aload_n 0, 1), (90, .invokevirtual 101, 3), (93, .goto 8, 3), (96, .aload_n 0, 1), (97, .iload_n 1, 1), (98, .invokevirtual 104, 3), (101, .return_, 1)]
set_option maxRecDepth 100000 in
theorem zzk_51 : ∀ q ∈ zzc_51, decode cX2_advance q.1 = .ok q.2 := by decide +kernel
def zzc_52 : List (Nat × Instr × Nat) := [(0, .aload_n 0, 1), (1, .getfield 30, 3), (4, .aload_n 0, 1), (5, .getfield 19, 3), (8, .if_icmp .ge 30, 3), (11, .aload_n 0, 1), (12, .aload_n 0, 1), (13, .getfield 30, 3), (16, .invokevirtual 85, 3), (19, .invokestatic 92, 3), (22, .ifCond .eq 16, 3), (25, .aload_n 0, 1), (26, .dup, 1), (27, .getfield 30, 3), (30, .iconst 1, 1), (31, .iadd, 1), (32, .putfield 30, 3), (35, .goto (-35), 3), (38, .sipush 10000, 3), (41, .istore_n 1, 1), (42, .iload_n 1, 1), (43, .sipush 10011, 3), (46, .if_icmp .gt 26, 3), (49, .aload_n 0, 1), (50, .iload_n 1, 1), (51, .invokestatic 107, 3), (54, .invokevirtual 111, 3), (57, .ifCond .eq 9, 3), (60, .aload_n 0, 1), (61, .iload_n 1, 1), (62, .putfield 51, 3), (65, .return_, 1), (66, .iinc 1 1, 3), (69, .goto (-27), 3), (72, .aload_n 0, 1), (73, .invokevirtual 54, 3), (76, .return_, 1)]
set_option maxRecDepth 100000 in
theorem zzk_52 : ∀ q ∈ zzc_52, decode cX2_advanceWord q.1 = .ok q.2 := by decide +kernel
def zzc_53 : List (Nat × Instr × Nat) := [(0, .aload_n 1, 1), (1, .invokevirtual 115, 3), (4, .aload_n 0, 1), (5, .getfield 30, 3), (8, .aload_n 0, 1), (9, .getfield 82, 3), (12, .isub, 1), (13, .if_icmp .eq 5, 3), (16, .iconst 0, 1), (17, .ireturn, 1), (18, .iconst 0, 1), (19, .istore_n 2, 1), (20, .iload_n 2, 1), (21, .aload_n 1, 1), (22, .invokevirtual 115, 3), (25, .if_icmp .ge 29, 3), (28, .aload_n 1, 1), (29, .iload_n 2, 1), (30, .invokevirtual 121, 3), (33, .aload_n 0, 1), (34, .aload_n 0, 1), (35, .getfield 82, 3), (38, .iload_n 2, 1), (39, .iadd, 1), (40, .invokevirtual 85, 3), (43, .if_icmp .eq 5, 3), (46, .iconst 0, 1), (47, .ireturn, 1), (48, .iinc 2 1, 3), (51, .goto (-31), 3), (54, .iconst 1, 1), (55, .ireturn, 1)]
set_option maxRecDepth 100000 in
theorem zzk_53 : ∀ q ∈ zzc_53, decode cX2_isWord q.1 = .ok q.2 := by decide +kernel
def zzc_54 : List (Nat × Instr × Nat) := [(0, .iload_n 0, 1), (1, .tableswitch 92 10000 10010 #[59, 62, 65, 68, 71, 74, 77, 80, 83, 86, 89], 59), (60, .ldc 125, 2), (62, .areturn, 1), (63, .ldc 127, 2), (65, .areturn, 1), (66, .ldc 129, 2), (68, .areturn, 1), (69, .ldc 131, 2), (71, .areturn, 1), (72, .ldc 133, 2), (74, .areturn, 1), (75, .ldc 135, 2), (77, .areturn, 1), (78, .ldc 137, 2), (80, .areturn, 1), (81, .ldc 139, 2), (83, .areturn, 1), (84, .ldc 141, 2), (86, .areturn, 1), (87, .ldc 143, 2), (89, .areturn, 1), (90, .ldc 145, 2), (92, .areturn, 1), (93, .ldc 147, 2), (95, .areturn, 1)]
set_option maxRecDepth 100000 in
theorem zzk_54 : ∀ q ∈ zzc_54, decode cX2_spelling q.1 = .ok q.2 := by decide +kernel
def zzc_55 : List (Nat × Instr × Nat) := [(0, .iconst 0, 1), (1, .istore_n 1, 1), (2, .aload_n 0, 1), (3, .getfield 30, 3), (6, .aload_n 0, 1), (7, .getfield 19, 3), (10, .if_icmp .ge 47, 3), (13, .aload_n 0, 1), (14, .aload_n 0, 1), (15, .getfield 30, 3), (18, .invokevirtual 85, 3), (21, .invokestatic 98, 3), (24, .ifCond .eq 33, 3), (27, .iload_n 1, 1), (28, .bipush 10, 2), (30, .imul, 1), (31, .aload_n 0, 1), (32, .aload_n 0, 1), (33, .getfield 30, 3), (36, .invokevirtual 85, 3), (39, .iadd, 1), (40, .bipush 48, 2), (42, .isub, 1), (43, .istore_n 1, 1), (44, .aload_n 0, 1), (45, .dup, 1), (46, .getfield 30, 3), (49, .iconst 1, 1), (50, .iadd, 1), (51, .putfield 30, 3), (54, .goto (-52), 3), (57, .aload_n 0, 1), (58, .iload_n 1, 1), (59, .putfield 51, 3), (62, .aload_n 0, 1), (63, .getfield 30, 3), (66, .aload_n 0, 1), (67, .getfield 82, 3), (70, .isub, 1), (71, .iconst 4, 1), (72, .if_icmp .le 7, 3), (75, .aload_n 0, 1), (76, .invokevirtual 54, 3), (79, .return_, 1)]
set_option maxRecDepth 100000 in
theorem zzk_55 : ∀ q ∈ zzc_55, decode cX2_advanceNumber q.1 = .ok q.2 := by decide +kernel
end
section
/-! the code of each method, read off the class files (written by wip/whole/gen1.py) -/
def zzc_56 : List (Nat × Instr × Nat) := [(0, .aload_n 0, 1), (1, .dup, 1), (2, .getfield 30, 3), (5, .iconst 1, 1), (6, .iadd, 1), (7, .putfield 30, 3), (10, .iload_n 1, 1), (11, .tableswitch 113 40 61 #[101, 101, 101, 101, 113, 101, 113, 113, 113, 113, 113, 113, 113, 113, 113, 113, 113, 113, 113, 101, 101, 101], 101), (112, .aload_n 0, 1), (113, .sipush 11000, 3), (116, .iload_n 1, 1), (117, .iadd, 1), (118, .putfield 51, 3), (121, .goto 7, 3), (124, .aload_n 0, 1), (125, .invokevirtual 54, 3), (128, .return_, 1)]
set_option maxRecDepth 100000 in
theorem zzk_56 : ∀ q ∈ zzc_56, decode cX2_advanceSign q.1 = .ok q.2 := by decide +kernel
def zzc_57 : List (Nat × Instr × Nat) := [(0, .iload_n 1, 1), (1, .ifCond .lt 22, 3), (4, .iload_n 1, 1), (5, .aload_n 0, 1), (6, .getfield 19, 3), (9, .if_icmp .ge 14, 3), (12, .aload_n 0, 1), (13, .getfield 15, 3), (16, .iload_n 1, 1), (17, .invokestatic 149, 3), (20, .goto 4, 3), (23, .iconst (-1), 1), (24, .ireturn, 1)]
set_option maxRecDepth 100000 in
theorem zzk_57 : ∀ q ∈ zzc_57, decode cX2_byteAt q.1 = .ok q.2 := by decide +kernel
def zzc_58 : List (Nat × Instr × Nat) := [(0, .iload_n 0, 1), (1, .bipush 32, 2), (3, .if_icmp .eq 9, 3), (6, .iload_n 0, 1), (7, .bipush 10, 2), (9, .if_icmp .ne 7, 3), (12, .iconst 1, 1), (13, .goto 4, 3), (16, .iconst 0, 1), (17, .ireturn, 1)]
set_option maxRecDepth 100000 in
theorem zzk_58 : ∀ q ∈ zzc_58, decode cX2_isBlank q.1 = .ok q.2 := by decide +kernel
def zzc_59 : List (Nat × Instr × Nat) := [(0, .iload_n 0, 1), (1, .bipush 97, 2), (3, .if_icmp .lt 13, 3), (6, .iload_n 0, 1), (7, .bipush 122, 2), (9, .if_icmp .gt 7, 3), (12, .iconst 1, 1), (13, .goto 4, 3), (16, .iconst 0, 1), (17, .ireturn, 1)]
set_option maxRecDepth 100000 in
theorem zzk_59 : ∀ q ∈ zzc_59, decode cX2_isLetter q.1 = .ok q.2 := by decide +kernel
def zzc_60 : List (Nat × Instr × Nat) := [(0, .iload_n 0, 1), (1, .bipush 48, 2), (3, .if_icmp .lt 13, 3), (6, .iload_n 0, 1), (7, .bipush 57, 2), (9, .if_icmp .gt 7, 3), (12, .iconst 1, 1), (13, .goto 4, 3), (16, .iconst 0, 1), (17, .ireturn, 1)]
set_option maxRecDepth 100000 in
theorem zzk_60 : ∀ q ∈ zzc_60, decode cX2_isDigit q.1 = .ok q.2 := by decide +kernel
def zzc_61 : List (Nat × Instr × Nat) := [(0, .aload_n 0, 1), (1, .invokespecial 3, 3), (4, .aload_n 0, 1), (5, .sipush 480, 3), (8, .newarray .int, 2), (10, .putfield 9, 3), (13, .aload_n 0, 1), (14, .bipush 8, 2), (16, .newarray .int, 2), (18, .putfield 15, 3), (21, .aload_n 0, 1), (22, .bipush 8, 2), (24, .newarray .int, 2), (26, .putfield 18, 3), (29, .aload_n 0, 1), (30, .bipush 8, 2), (32, .newarray .int, 2), (34, .putfield 21, 3), (37, .return_, 1)]
set_option maxRecDepth 100000 in
theorem zzk_61 : ∀ q ∈ zzc_61, decode cX3_init q.1 = .ok q.2 := by decide +kernel
def zzc_62 : List (Nat × Instr × Nat) := [(0, .aload_n 0, 1), (1, .iload_n 2, 1), (2, .putfield 24, 3), (5, .aload_n 0, 1), (6, .aload_n 1, 1), (7, .getfield 28, 3), (10, .putfield 33, 3), (13, .aload_n 0, 1), (14, .aload_n 1, 1), (15, .getfield 34, 3), (18, .putfield 37, 3), (21, .iconst 0, 1), (22, .istore_n 3, 1), (23, .iload_n 3, 1), (24, .iload_n 2, 1), (25, .if_icmp .ge 53, 3), (28, .iconst 0, 1), (29, .istore 4, 2), (31, .iload 4, 2), (33, .aload_n 0, 1), (34, .getfield 33, 3), (37, .if_icmp .ge 35, 3), (40, .aload_n 0, 1), (41, .getfield 9, 3), (44, .iload_n 3, 1), (45, .bipush 8, 2), (47, .imul, 1), (48, .iload 4, 2), (50, .iadd, 1), (51, .aload_n 1, 1), (52, .iload 4, 2), (54, .aload_n 1, 1), (55, .getfield 38, 3), (58, .iload_n 3, 1), (59, .iadd, 1), (60, .invokevirtual 41, 3), (63, .invokestatic 44, 3), (66, .iinc 4 1, 3), (69, .goto (-38), 3), (72, .iinc 3 1, 3), (75, .goto (-52), 3), (78, .return_, 1)]
set_option maxRecDepth 100000 in
theorem zzk_62 : ∀ q ∈ zzc_62, decode cX3_plan q.1 = .ok q.2 := by decide +kernel
def zzc_63 : List (Nat × Instr × Nat) := [(0, .iconst 0, 1), (1, .istore_n 2, 1), (2, .aload_n 0, 1), (3, .getfield 15, 3), (6, .iconst 0, 1), (7, .invokestatic 48, 3), (10, .aload_n 0, 1), (11, .getfield 21, 3), (14, .iconst 0, 1), (15, .invokestatic 48, 3), (18, .aload_n 0, 1), (19, .getfield 18, 3), (22, .iconst (-1), 1), (23, .invokestatic 48, 3), (26, .iconst 0, 1), (27, .istore_n 3, 1), (28, .iload_n 3, 1), (29, .aload_n 0, 1), (30, .getfield 24, 3), (33, .if_icmp .ge 30, 3), (36, .iload_n 2, 1), (37, .aload_n 0, 1), (38, .iload_n 3, 1), (39, .invokevirtual 52, 3), (42, .iadd, 1), (43, .istore_n 2, 1), (44, .iload_n 3, 1), (45, .iload_n 1, 1), (46, .if_icmp .ne 11, 3), (49, .aload_n 0, 1), (50, .getfield 15, 3), (53, .iconst 0, 1), (54, .invokestatic 48, 3), (57, .iinc 3 1, 3), (60, .goto (-32), 3), (63, .iload_n 2, 1), (64, .ireturn, 1)]
set_option maxRecDepth 100000 in
theorem zzk_63 : ∀ q ∈ zzc_63, decode cX3_sick q.1 = .ok q.2 := by decide +kernel
def zzc_64 : List (Nat × Instr × Nat) := [(0, .iconst 0, 1), (1, .istore_n 2, 1), (2, .iconst 0, 1), (3, .istore_n 3, 1), (4, .iload_n 3, 1), (5, .aload_n 0, 1), (6, .getfield 33, 3), (9, .if_icmp .ge 82, 3), (12, .aload_n 0, 1), (13, .getfield 15, 3), (16, .iload_n 3, 1), (17, .invokestatic 56, 3), (20, .aload_n 0, 1), (21, .getfield 9, 3), (24, .iload_n 1, 1), (25, .bipush 8, 2), (27, .imul, 1), (28, .iload_n 3, 1), (29, .iadd, 1), (30, .invokestatic 56, 3), (33, .iadd, 1), (34, .istore 4, 2), (36, .iload 4, 2), (38, .aload_n 0, 1), (39, .getfield 37, 3), (42, .if_icmp .le 7, 3), (45, .iconst 1, 1), (46, .goto 4, 3), (49, .iconst 0, 1), (50, .istore 5, 2), (52, .aload_n 0, 1), (53, .getfield 15, 3), (56, .iload_n 3, 1), (57, .iload 5, 2), (59, .ifCond .eq 7, 3), (62, .iconst 0, 1), (63, .goto 5, 3), (66, .iload 4, 2), (68, .invokestatic 44, 3), (71, .iload 5, 2), (73, .ifCond .eq 12, 3), (76, .iinc 2 1, 3), (79, .aload_n 0, 1), (80, .iload_n 3, 1), (81, .iload_n 1, 1), (82, .invokevirtual 60, 3), (85, .iinc 3 1, 3), (88, .goto (-84), 3), (91, .iload_n 2, 1), (92, .ireturn, 1)]
set_option maxRecDepth 100000 in
theorem zzk_64 : ∀ q ∈ zzc_64, decode cX3_sickIn q.1 = .ok q.2 := by decide +kernel
def zzc_65 : List (Nat × Instr × Nat) := [(0, .aload_n 0, 1), (1, .getfield 21, 3), (4, .iload_n 1, 1), (5, .invokestatic 56, 3), (8, .ifCond .ne 12, 3), (11, .aload_n 0, 1), (12, .getfield 18, 3), (15, .iload_n 1, 1), (16, .iload_n 2, 1), (17, .invokestatic 44, 3), (20, .aload_n 0, 1), (21, .getfield 21, 3), (24, .iload_n 1, 1), (25, .aload_n 0, 1), (26, .getfield 21, 3), (29, .iload_n 1, 1), (30, .invokestatic 56, 3), (33, .iconst 1, 1), (34, .iadd, 1), (35, .invokestatic 44, 3), (38, .return_, 1)]
set_option maxRecDepth 100000 in
theorem zzk_65 : ∀ q ∈ zzc_65, decode cX3_noteSick q.1 = .ok q.2 := by decide +kernel
def zzc_66 : List (Nat × Instr × Nat) := [(0, .iconst (-1), 1), (1, .istore_n 1, 1), (2, .iconst 0, 1), (3, .istore_n 2, 1), (4, .iload_n 2, 1), (5, .aload_n 0, 1), (6, .getfield 33, 3), (9, .if_icmp .ge 46, 3), (12, .aload_n 0, 1), (13, .getfield 21, 3), (16, .iload_n 2, 1), (17, .invokestatic 56, 3), (20, .ifCond .le 29, 3), (23, .iload_n 1, 1), (24, .iconst (-1), 1), (25, .if_icmp .eq 22, 3), (28, .aload_n 0, 1), (29, .getfield 18, 3), (32, .iload_n 2, 1), (33, .invokestatic 56, 3), (36, .aload_n 0, 1), (37, .getfield 18, 3), (40, .iload_n 1, 1), (41, .invokestatic 56, 3), (44, .if_icmp .ge 5, 3), (47, .iload_n 2, 1), (48, .istore_n 1, 1), (49, .iinc 2 1, 3), (52, .goto (-48), 3), (55, .iload_n 1, 1), (56, .ireturn, 1)]
set_option maxRecDepth 100000 in
theorem zzk_66 : ∀ q ∈ zzc_66, decode cX3_firstSick q.1 = .ok q.2 := by decide +kernel
def zzc_67 : List (Nat × Instr × Nat) := [(0, .aload_n 0, 1), (1, .invokespecial 3, 3), (4, .aload_n 0, 1), (5, .iconst (-1), 1), (6, .putfield 9, 3), (9, .aload_n 0, 1), (10, .iconst 0, 1), (11, .putfield 15, 3), (14, .aload_n 0, 1), (15, .bipush 40, 2), (17, .newarray .int, 2), (19, .putfield 18, 3), (22, .return_, 1)]
set_option maxRecDepth 100000 in
theorem zzk_67 : ∀ q ∈ zzc_67, decode cX4_init q.1 = .ok q.2 := by decide +kernel
def zzc_68 : List (Nat × Instr × Nat) := [(0, .aload_n 0, 1), (1, .iload_n 1, 1), (2, .putfield 9, 3), (5, .aload_n 0, 1), (6, .iload_n 2, 1), (7, .putfield 15, 3), (10, .aload_n 0, 1), (11, .getfield 18, 3), (14, .iconst 0, 1), (15, .invokestatic 22, 3), (18, .return_, 1)]
set_option maxRecDepth 100000 in
theorem zzk_68 : ∀ q ∈ zzc_68, decode cX4_become q.1 = .ok q.2 := by decide +kernel
def zzc_69 : List (Nat × Instr × Nat) := [(0, .aload_n 0, 1), (1, .getfield 9, 3), (4, .iconst (-1), 1), (5, .if_icmp .ne 7, 3), (8, .iconst 1, 1), (9, .goto 4, 3), (12, .iconst 0, 1), (13, .ireturn, 1)]
set_option maxRecDepth 100000 in
theorem zzk_69 : ∀ q ∈ zzc_69, decode cX4_isMissing q.1 = .ok q.2 := by decide +kernel
def zzc_70 : List (Nat × Instr × Nat) := [(0, .iload_n 1, 1), (1, .ifCond .lt 15, 3), (4, .iload_n 1, 1), (5, .aload_n 0, 1), (6, .getfield 15, 3), (9, .if_icmp .ge 7, 3), (12, .iconst 1, 1), (13, .goto 4, 3), (16, .iconst 0, 1), (17, .ireturn, 1)]
set_option maxRecDepth 100000 in
theorem zzk_70 : ∀ q ∈ zzc_70, decode cX4_has q.1 = .ok q.2 := by decide +kernel
def zzc_71 : List (Nat × Instr × Nat) := [(0, .iload_n 2, 1), (1, .ifCond .lt 21, 3), (4, .iload_n 1, 1), (5, .ifCond .lt 17, 3), (8, .iload_n 1, 1), (9, .aload_n 0, 1), (10, .getfield 15, 3), (13, .iload_n 2, 1), (14, .isub, 1), (15, .if_icmp .gt 7, 3), (18, .iconst 1, 1), (19, .goto 4, 3), (22, .iconst 0, 1), (23, .ireturn, 1)]
set_option maxRecDepth 100000 in
theorem zzk_71 : ∀ q ∈ zzc_71, decode cX4_hasRun q.1 = .ok q.2 := by decide +kernel
def zzc_72 : List (Nat × Instr × Nat) := [(0, .aload_n 0, 1), (1, .getfield 18, 3), (4, .iload_n 1, 1), (5, .invokestatic 26, 3), (8, .ireturn, 1)]
set_option maxRecDepth 100000 in
theorem zzk_72 : ∀ q ∈ zzc_72, decode cX4_item q.1 = .ok q.2 := by decide +kernel
def zzc_73 : List (Nat × Instr × Nat) := [(0, .aload_n 0, 1), (1, .getfield 18, 3), (4, .iload_n 1, 1), (5, .aload_n 0, 1), (6, .getfield 9, 3), (9, .ifCond .ne 8, 3), (12, .iload_n 2, 1), (13, .i2b, 1), (14, .goto 17, 3), (17, .aload_n 0, 1), (18, .getfield 9, 3), (21, .iconst 1, 1), (22, .if_icmp .ne 8, 3), (25, .iload_n 2, 1), (26, .i2s, 1), (27, .goto 4, 3), (30, .iload_n 2, 1), (31, .invokestatic 30, 3), (34, .return_, 1)]
set_option maxRecDepth 100000 in
theorem zzk_73 : ∀ q ∈ zzc_73, decode cX4_write q.1 = .ok q.2 := by decide +kernel
def zzc_74 : List (Nat × Instr × Nat) := [(0, .aload_n 0, 1), (1, .invokespecial 3, 3), (4, .aload_n 0, 1), (5, .sipush 960, 3), (8, .newarray .int, 2), (10, .putfield 9, 3), (13, .aload_n 0, 1), (14, .bipush 18, 2), (16, .newarray .int, 2), (18, .putfield 15, 3), (21, .aload_n 0, 1), (22, .sipush 160, 3), (25, .newarray .int, 2), (27, .putfield 18, 3), (30, .aload_n 0, 1), (31, .iconst 0, 1), (32, .putfield 21, 3), (35, .aload_n 0, 1), (36, .iconst 0, 1), (37, .putfield 25, 3), (40, .return_, 1)]
set_option maxRecDepth 100000 in
theorem zzk_74 : ∀ q ∈ zzc_74, decode cX5_init q.1 = .ok q.2 := by decide +kernel
def zzc_75 : List (Nat × Instr × Nat) := [(0, .aload_n 0, 1), (1, .aload_n 0, 1), (2, .getfield 21, 3), (5, .sipush 160, 3), (8, .imul, 1), (9, .putfield 25, 3), (12, .return_, 1)]
set_option maxRecDepth 100000 in
theorem zzk_75 : ∀ q ∈ zzc_75, decode cX5_startDraft q.1 = .ok q.2 := by decide +kernel
def zzc_76 : List (Nat × Instr × Nat) := [(0, .aload_n 0, 1), (1, .getfield 9, 3), (4, .aload_n 0, 1), (5, .getfield 25, 3), (8, .iload_n 1, 1), (9, .invokestatic 28, 3), (12, .aload_n 0, 1), (13, .dup, 1), (14, .getfield 25, 3), (17, .iconst 1, 1), (18, .iadd, 1), (19, .putfield 25, 3), (22, .return_, 1)]
set_option maxRecDepth 100000 in
theorem zzk_76 : ∀ q ∈ zzc_76, decode cX5_add q.1 = .ok q.2 := by decide +kernel
def zzc_77 : List (Nat × Instr × Nat) := [(0, .aload_n 0, 1), (1, .getfield 15, 3), (4, .aload_n 0, 1), (5, .getfield 21, 3), (8, .iconst 3, 1), (9, .imul, 1), (10, .iload_n 1, 1), (11, .iadd, 1), (12, .aload_n 0, 1), (13, .getfield 25, 3), (16, .invokestatic 28, 3), (19, .return_, 1)]
set_option maxRecDepth 100000 in
theorem zzk_77 : ∀ q ∈ zzc_77, decode cX5_endPart q.1 = .ok q.2 := by decide +kernel
def zzc_78 : List (Nat × Instr × Nat) := [(0, .aload_n 0, 1), (1, .dup, 1), (2, .getfield 21, 3), (5, .iconst 1, 1), (6, .iadd, 1), (7, .putfield 21, 3), (10, .return_, 1)]
set_option maxRecDepth 100000 in
theorem zzk_78 : ∀ q ∈ zzc_78, decode cX5_keepDraft q.1 = .ok q.2 := by decide +kernel
def zzc_79_0 : List (Nat × Instr × Nat) := [(0, .iload_n 1, 1), (1, .iconst 3, 1), (2, .imul, 1), (3, .iload_n 2, 1), (4, .iadd, 1), (5, .istore 4, 2), (7, .iload_n 2, 1), (8, .ifCond .ne 11, 3), (11, .iload_n 1, 1), (12, .sipush 160, 3), (15, .imul, 1), (16, .goto 14, 3), (19, .aload_n 0, 1), (20, .getfield 15, 3), (23, .iload 4, 2), (25, .iconst 1, 1), (26, .isub, 1), (27, .invokestatic 32, 3), (30, .istore 5, 2), (32, .aload_n 0, 1), (33, .getfield 15, 3), (36, .iload 4, 2), (38, .invokestatic 32, 3), (41, .istore 6, 2), (43, .iconst (-1), 1), (44, .istore 7, 2), (46, .iload 5, 2), (48, .istore 8, 2), (50, .iload 8, 2), (52, .iload 6, 2), (54, .if_icmp .ge 182, 3), (57, .aload_n 0, 1), (58, .getfield 9, 3), (61, .iload 8, 2), (63, .invokestatic 32, 3), (66, .istore 9, 2), (68, .iload 9, 2), (70, .sipush 10000, 3), (73, .if_icmp .ge 20, 3), (76, .iinc 7 1, 3), (79, .aload_n 0, 1), (80, .getfield 18, 3), (83, .iload 7, 2), (85, .iload 9, 2), (87, .invokestatic 28, 3), (90, .goto 140, 3), (93, .iload 9, 2), (95, .sipush 10005, 3), (98, .if_icmp .gt 28, 3), (101, .iinc 7 1, 3)]
set_option maxRecDepth 100000 in
theorem zzk_79_0 : ∀ q ∈ zzc_79_0, decode cX5_value q.1 = .ok q.2 := by decide +kernel
def zzc_79_1 : List (Nat × Instr × Nat) := [(104, .aload_n 0, 1), (105, .getfield 18, 3), (108, .iload 7, 2), (110, .aload_n 3, 1), (111, .iload 9, 2), (113, .sipush 10000, 3), (116, .isub, 1), (117, .invokestatic 32, 3), (120, .invokestatic 28, 3), (123, .goto 107, 3), (126, .iload 9, 2), (128, .sipush 10011, 3), (131, .if_icmp .ne 32, 3), (134, .aload_n 0, 1), (135, .getfield 18, 3), (138, .iload 7, 2), (140, .aload_n 0, 1), (141, .getfield 18, 3), (144, .iload 7, 2), (146, .invokestatic 32, 3), (149, .ifCond .ne 7, 3), (152, .iconst 1, 1), (153, .goto 4, 3), (156, .iconst 0, 1), (157, .invokestatic 28, 3), (160, .goto 70, 3), (163, .iload 9, 2), (165, .sipush 10012, 3), (168, .if_icmp .ne 25, 3), (171, .aload_n 0, 1), (172, .getfield 18, 3), (175, .iload 7, 2), (177, .aload_n 0, 1), (178, .getfield 18, 3), (181, .iload 7, 2), (183, .invokestatic 32, 3), (186, .ineg, 1), (187, .invokestatic 28, 3), (190, .goto 40, 3), (193, .iinc 7 (-1), 3), (196, .aload_n 0, 1), (197, .getfield 18, 3), (200, .iload 7, 2), (202, .iload 9, 2), (204, .aload_n 0, 1), (205, .getfield 18, 3), (208, .iload 7, 2), (210, .invokestatic 32, 3), (213, .aload_n 0, 1), (214, .getfield 18, 3)]
set_option maxRecDepth 100000 in
theorem zzk_79_1 : ∀ q ∈ zzc_79_1, decode cX5_value q.1 = .ok q.2 := by decide +kernel
def zzc_79_2 : List (Nat × Instr × Nat) := [(217, .iload 7, 2), (219, .iconst 1, 1), (220, .iadd, 1), (221, .invokestatic 32, 3), (224, .invokestatic 36, 3), (227, .invokestatic 28, 3), (230, .iinc 8 1, 3), (233, .goto (-183), 3), (236, .aload_n 0, 1), (237, .getfield 18, 3), (240, .iconst 0, 1), (241, .invokestatic 32, 3), (244, .ireturn, 1)]
set_option maxRecDepth 100000 in
theorem zzk_79_2 : ∀ q ∈ zzc_79_2, decode cX5_value q.1 = .ok q.2 := by decide +kernel
def zzc_79 : List (Nat × Instr × Nat) := zzc_79_0 ++ (zzc_79_1 ++ (zzc_79_2))
theorem zzk_79 : ∀ q ∈ zzc_79, decode cX5_value q.1 = .ok q.2 := List.forall_mem_append.mpr ⟨zzk_79_0, List.forall_mem_append.mpr ⟨zzk_79_1, zzk_79_2⟩⟩
def zzc_80 : List (Nat × Instr × Nat) := [(0, .iload_n 0, 1), (1, .lookupswitch 129 #[(10009, 101), (10010, 115), (11042, 75), (11043, 67), (11045, 71), (11060, 79), (11061, 90)], 67), (68, .iload_n 1, 1), (69, .iload_n 2, 1), (70, .iadd, 1), (71, .ireturn, 1), (72, .iload_n 1, 1), (73, .iload_n 2, 1), (74, .isub, 1), (75, .ireturn, 1), (76, .iload_n 1, 1), (77, .iload_n 2, 1), (78, .imul, 1), (79, .ireturn, 1), (80, .iload_n 1, 1), (81, .iload_n 2, 1), (82, .if_icmp .ge 7, 3), (85, .iconst 1, 1), (86, .goto 4, 3), (89, .iconst 0, 1), (90, .ireturn, 1), (91, .iload_n 1, 1), (92, .iload_n 2, 1), (93, .if_icmp .ne 7, 3), (96, .iconst 1, 1), (97, .goto 4, 3), (100, .iconst 0, 1), (101, .ireturn, 1), (102, .iload_n 1, 1), (103, .ifCond .ne 7, 3), (106, .iload_n 2, 1), (107, .ifCond .eq 7, 3), (110, .iconst 1, 1), (111, .goto 4, 3), (114, .iconst 0, 1), (115, .ireturn, 1), (116, .iload_n 1, 1), (117, .ifCond .eq 11, 3), (120, .iload_n 2, 1), (121, .ifCond .eq 7, 3), (124, .iconst 1, 1), (125, .goto 4, 3), (128, .iconst 0, 1), (129, .ireturn, 1), (130, .iconst 0, 1), (131, .ireturn, 1)]
set_option maxRecDepth 100000 in
theorem zzk_80 : ∀ q ∈ zzc_80, decode cX5_joined q.1 = .ok q.2 := by decide +kernel
def zzc_81_0 : List (Nat × Instr × Nat) := [(0, .aload_n 0, 1), (1, .invokespecial 3, 3), (4, .aload_n 0, 1), (5, .new 9, 3), (8, .dup, 1), (9, .invokespecial 11, 3), (12, .putfield 12, 3), (15, .aload_n 0, 1), (16, .new 16, 3), (19, .dup, 1), (20, .aload_n 0, 1), (21, .getfield 12, 3), (24, .invokespecial 18, 3), (27, .putfield 21, 3), (30, .aload_n 0, 1), (31, .new 25, 3), (34, .dup, 1), (35, .aload_n 0, 1), (36, .getfield 12, 3), (39, .invokespecial 27, 3), (42, .putfield 28, 3), (45, .aload_n 0, 1), (46, .new 25, 3), (49, .dup, 1), (50, .aload_n 0, 1), (51, .getfield 12, 3), (54, .invokespecial 27, 3), (57, .putfield 32, 3), (60, .aload_n 0, 1), (61, .new 25, 3), (64, .dup, 1), (65, .aload_n 0, 1), (66, .getfield 12, 3), (69, .invokespecial 27, 3), (72, .putfield 35, 3), (75, .aload_n 0, 1), (76, .iconst 0, 1), (77, .putfield 38, 3), (80, .aload_n 0, 1), (81, .new 42, 3), (84, .dup, 1), (85, .invokespecial 44, 3), (88, .putfield 45, 3), (91, .aload_n 0, 1), (92, .new 49, 3), (95, .dup, 1), (96, .invokespecial 51, 3), (99, .putfield 52, 3), (102, .aload_n 0, 1), (103, .iconst 4, 1)]
set_option maxRecDepth 100000 in
theorem zzk_81_0 : ∀ q ∈ zzc_81_0, decode cX6_init q.1 = .ok q.2 := by decide +kernel
def zzc_81_1 : List (Nat × Instr × Nat) := [(104, .anewarray 56, 3), (107, .putfield 58, 3), (110, .iconst 0, 1), (111, .istore_n 1, 1), (112, .iload_n 1, 1), (113, .aload_n 0, 1), (114, .getfield 58, 3), (117, .arraylength, 1), (118, .if_icmp .ge 22, 3), (121, .aload_n 0, 1), (122, .getfield 58, 3), (125, .iload_n 1, 1), (126, .new 56, 3), (129, .dup, 1), (130, .invokespecial 62, 3), (133, .aastore, 1), (134, .iinc 1 1, 3), (137, .goto (-25), 3), (140, .iconst 0, 1), (141, .istore_n 1, 1), (142, .iload_n 1, 1), (143, .ldc 63, 2), (145, .invokevirtual 65, 3), (148, .if_icmp .ge 23, 3), (151, .aload_n 0, 1), (152, .getfield 21, 3), (155, .ldc 63, 2), (157, .iload_n 1, 1), (158, .invokevirtual 71, 3), (161, .invokevirtual 75, 3), (164, .pop, 1), (165, .iinc 1 1, 3), (168, .goto (-26), 3), (171, .aload_n 0, 1), (172, .getfield 21, 3), (175, .invokevirtual 79, 3), (178, .pop, 1), (179, .return_, 1)]
set_option maxRecDepth 100000 in
theorem zzk_81_1 : ∀ q ∈ zzc_81_1, decode cX6_init q.1 = .ok q.2 := by decide +kernel
def zzc_81 : List (Nat × Instr × Nat) := zzc_81_0 ++ (zzc_81_1)
theorem zzk_81 : ∀ q ∈ zzc_81, decode cX6_init q.1 = .ok q.2 := List.forall_mem_append.mpr ⟨zzk_81_0, zzk_81_1⟩
def zzc_82_0 : List (Nat × Instr × Nat) := [(0, .iload_n 1, 1), (1, .ifCond .eq 8, 3), (4, .iload_n 1, 1), (5, .iconst 1, 1), (6, .if_icmp .ne 10, 3), (9, .aload_n 0, 1), (10, .iload_n 1, 1), (11, .iload_n 3, 1), (12, .invokevirtual 82, 3), (15, .ireturn, 1), (16, .aload_n 0, 1), (17, .getfield 28, 3), (20, .iload_n 2, 1), (21, .invokevirtual 86, 3), (24, .ifCond .ne 6, 3), (27, .bipush (-2), 2), (29, .ireturn, 1), (30, .iload_n 1, 1), (31, .iconst 2, 1), (32, .if_icmp .ne 26, 3), (35, .iload_n 3, 1), (36, .ifCond .lt 22, 3), (39, .iload_n 3, 1), (40, .bipush 9, 2), (42, .if_icmp .gt 16, 3), (45, .aload_n 0, 1), (46, .getfield 28, 3), (49, .getfield 90, 3), (52, .iload_n 2, 1), (53, .iload_n 3, 1), (54, .invokestatic 94, 3), (57, .ireturn, 1), (58, .iload_n 1, 1), (59, .iconst 3, 1), (60, .if_icmp .ne 37, 3), (63, .iload_n 3, 1), (64, .iload_n 2, 1), (65, .if_icmp .eq 32, 3), (68, .iload_n 3, 1), (69, .iconst (-1), 1), (70, .if_icmp .eq 14, 3), (73, .aload_n 0, 1), (74, .getfield 28, 3), (77, .iload_n 3, 1), (78, .invokevirtual 86, 3), (81, .ifCond .eq 16, 3), (84, .aload_n 0, 1), (85, .getfield 28, 3), (88, .getfield 98, 3), (91, .iload_n 2, 1)]
set_option maxRecDepth 100000 in
theorem zzk_82_0 : ∀ q ∈ zzc_82_0, decode cX6_set q.1 = .ok q.2 := by decide +kernel
def zzc_82_1 : List (Nat × Instr × Nat) := [(92, .iload_n 3, 1), (93, .invokestatic 94, 3), (96, .ireturn, 1), (97, .bipush (-2), 2), (99, .ireturn, 1)]
set_option maxRecDepth 100000 in
theorem zzk_82_1 : ∀ q ∈ zzc_82_1, decode cX6_set q.1 = .ok q.2 := by decide +kernel
def zzc_82 : List (Nat × Instr × Nat) := zzc_82_0 ++ (zzc_82_1)
theorem zzk_82 : ∀ q ∈ zzc_82, decode cX6_set q.1 = .ok q.2 := List.forall_mem_append.mpr ⟨zzk_82_0, zzk_82_1⟩
def zzc_83 : List (Nat × Instr × Nat) := [(0, .iload_n 2, 1), (1, .ifCond .lt 19, 3), (4, .iload_n 2, 1), (5, .iload_n 1, 1), (6, .ifCond .ne 8, 3), (9, .bipush 99, 2), (11, .goto 6, 3), (14, .sipush 999, 3), (17, .if_icmp .le 6, 3), (20, .bipush (-2), 2), (22, .ireturn, 1), (23, .iload_n 1, 1), (24, .ifCond .ne 13, 3), (27, .aload_n 0, 1), (28, .getfield 28, 3), (31, .getfield 101, 3), (34, .goto 10, 3), (37, .aload_n 0, 1), (38, .getfield 28, 3), (41, .getfield 105, 3), (44, .istore_n 3, 1), (45, .iload_n 1, 1), (46, .ifCond .ne 14, 3), (49, .aload_n 0, 1), (50, .getfield 28, 3), (53, .iload_n 2, 1), (54, .putfield 101, 3), (57, .goto 11, 3), (60, .aload_n 0, 1), (61, .getfield 28, 3), (64, .iload_n 2, 1), (65, .putfield 105, 3), (68, .iload_n 3, 1), (69, .ireturn, 1)]
set_option maxRecDepth 100000 in
theorem zzk_83 : ∀ q ∈ zzc_83, decode cX6_setForAll q.1 = .ok q.2 := by decide +kernel
def zzc_84 : List (Nat × Instr × Nat) := [(0, .iload_n 1, 1), (1, .ifCond .lt 19, 3), (4, .iload_n 1, 1), (5, .bipush 6, 2), (7, .if_icmp .ge 13, 3), (10, .iload_n 2, 1), (11, .ifCond .lt 9, 3), (14, .iload_n 2, 1), (15, .bipush 9, 2), (17, .if_icmp .le 6, 3), (20, .bipush (-2), 2), (22, .ireturn, 1), (23, .aload_n 0, 1), (24, .getfield 28, 3), (27, .getfield 108, 3), (30, .bipush 8, 2), (32, .if_icmp .lt 8, 3), (35, .bipush (-4), 2), (37, .goto 12, 3), (40, .aload_n 0, 1), (41, .getfield 28, 3), (44, .iload_n 1, 1), (45, .iload_n 2, 1), (46, .invokevirtual 111, 3), (49, .ireturn, 1)]
set_option maxRecDepth 100000 in
theorem zzk_84 : ∀ q ∈ zzc_84, decode cX6_passenger q.1 = .ok q.2 := by decide +kernel
def zzc_85 : List (Nat × Instr × Nat) := [(0, .aload_n 0, 1), (1, .getfield 28, 3), (4, .iload_n 1, 1), (5, .invokevirtual 86, 3), (8, .ifCond .eq 14, 3), (11, .iload_n 2, 1), (12, .iconst (-1), 1), (13, .if_icmp .lt 9, 3), (16, .iload_n 2, 1), (17, .bipush 24, 2), (19, .if_icmp .lt 6, 3), (22, .bipush (-2), 2), (24, .ireturn, 1), (25, .aload_n 0, 1), (26, .getfield 28, 3), (29, .iload_n 2, 1), (30, .invokevirtual 114, 3), (33, .istore_n 3, 1), (34, .iload_n 3, 1), (35, .iconst (-1), 1), (36, .if_icmp .eq 11, 3), (39, .iload_n 3, 1), (40, .iload_n 1, 1), (41, .if_icmp .eq 6, 3), (44, .bipush (-3), 2), (46, .ireturn, 1), (47, .aload_n 0, 1), (48, .getfield 28, 3), (51, .iload_n 1, 1), (52, .invokevirtual 117, 3), (55, .istore 4, 2), (57, .aload_n 0, 1), (58, .getfield 28, 3), (61, .iload_n 1, 1), (62, .iload_n 2, 1), (63, .invokevirtual 120, 3), (66, .iload 4, 2), (68, .ireturn, 1)]
set_option maxRecDepth 100000 in
theorem zzk_85 : ∀ q ∈ zzc_85, decode cX6_sit q.1 = .ok q.2 := by decide +kernel
def zzc_86_0 : List (Nat × Instr × Nat) := [(0, .iload_n 2, 1), (1, .ifCond .ne 11, 3), (4, .aload_n 0, 1), (5, .getfield 28, 3), (8, .getfield 101, 3), (11, .ireturn, 1), (12, .iload_n 2, 1), (13, .iconst 1, 1), (14, .if_icmp .ne 11, 3), (17, .aload_n 0, 1), (18, .getfield 28, 3), (21, .getfield 105, 3), (24, .ireturn, 1), (25, .aload_n 0, 1), (26, .getfield 28, 3), (29, .iload_n 1, 1), (30, .invokevirtual 86, 3), (33, .ifCond .ne 6, 3), (36, .bipush (-2), 2), (38, .ireturn, 1), (39, .iload_n 2, 1), (40, .tableswitch 135 2 9 #[48, 57, 66, 75, 84, 93, 109, 118], 48), (88, .aload_n 0, 1), (89, .getfield 28, 3), (92, .iload_n 1, 1), (93, .invokevirtual 124, 3), (96, .ireturn, 1), (97, .aload_n 0, 1), (98, .getfield 28, 3), (101, .iload_n 1, 1), (102, .invokevirtual 127, 3), (105, .ireturn, 1), (106, .aload_n 0, 1), (107, .getfield 28, 3), (110, .iload_n 1, 1), (111, .invokevirtual 130, 3), (114, .ireturn, 1), (115, .aload_n 0, 1), (116, .getfield 28, 3), (119, .iload_n 1, 1), (120, .invokevirtual 117, 3), (123, .ireturn, 1), (124, .aload_n 0, 1), (125, .getfield 28, 3), (128, .iload_n 1, 1), (129, .invokevirtual 133, 3), (132, .ireturn, 1), (133, .aload_n 0, 1), (134, .getfield 28, 3), (137, .iload_n 1, 1)]
set_option maxRecDepth 100000 in
theorem zzk_86_0 : ∀ q ∈ zzc_86_0, decode cX6_told q.1 = .ok q.2 := by decide +kernel
def zzc_86_1 : List (Nat × Instr × Nat) := [(138, .aload_n 0, 1), (139, .getfield 28, 3), (142, .getfield 101, 3), (145, .invokevirtual 136, 3), (148, .ireturn, 1), (149, .aload_n 0, 1), (150, .getfield 28, 3), (153, .iload_n 1, 1), (154, .invokevirtual 139, 3), (157, .ireturn, 1), (158, .aload_n 0, 1), (159, .getfield 28, 3), (162, .iload_n 1, 1), (163, .invokevirtual 142, 3), (166, .ifCond .eq 7, 3), (169, .iconst 1, 1), (170, .goto 4, 3), (173, .iconst 0, 1), (174, .ireturn, 1), (175, .bipush (-2), 2), (177, .ireturn, 1)]
set_option maxRecDepth 100000 in
theorem zzk_86_1 : ∀ q ∈ zzc_86_1, decode cX6_told q.1 = .ok q.2 := by decide +kernel
def zzc_86 : List (Nat × Instr × Nat) := zzc_86_0 ++ (zzc_86_1)
theorem zzk_86 : ∀ q ∈ zzc_86, decode cX6_told q.1 = .ok q.2 := List.forall_mem_append.mpr ⟨zzk_86_0, zzk_86_1⟩
def zzc_87 : List (Nat × Instr × Nat) := [(0, .iload_n 1, 1), (1, .ifCond .lt 9, 3), (4, .iload_n 1, 1), (5, .bipush 24, 2), (7, .if_icmp .lt 8, 3), (10, .bipush (-2), 2), (12, .goto 11, 3), (15, .aload_n 0, 1), (16, .getfield 28, 3), (19, .iload_n 1, 1), (20, .invokevirtual 114, 3), (23, .ireturn, 1)]
set_option maxRecDepth 100000 in
theorem zzk_87 : ∀ q ∈ zzc_87, decode cX6_who q.1 = .ok q.2 := by decide +kernel
def zzc_88 : List (Nat × Instr × Nat) := [(0, .iload_n 1, 1), (1, .ifCond .lt 10, 3), (4, .iload_n 1, 1), (5, .sipush 255, 3), (8, .if_icmp .le 6, 3), (11, .bipush (-2), 2), (13, .ireturn, 1), (14, .aload_n 0, 1), (15, .getfield 21, 3), (18, .getfield 145, 3), (21, .sipush 160, 3), (24, .if_icmp .lt 8, 3), (27, .bipush (-4), 2), (29, .goto 11, 3), (32, .aload_n 0, 1), (33, .getfield 21, 3), (36, .iload_n 1, 1), (37, .invokevirtual 75, 3), (40, .ireturn, 1)]
set_option maxRecDepth 100000 in
theorem zzk_88 : ∀ q ∈ zzc_88, decode cX6_feed q.1 = .ok q.2 := by decide +kernel
def zzc_89 : List (Nat × Instr × Nat) := [(0, .aload_n 0, 1), (1, .getfield 12, 3), (4, .getfield 146, 3), (7, .bipush 6, 2), (9, .if_icmp .lt 6, 3), (12, .bipush (-4), 2), (14, .ireturn, 1), (15, .aload_n 0, 1), (16, .getfield 21, 3), (19, .invokevirtual 79, 3), (22, .istore_n 1, 1), (23, .iload_n 1, 1), (24, .iconst (-1), 1), (25, .if_icmp .ne 15, 3), (28, .aload_n 0, 1), (29, .getfield 12, 3), (32, .getfield 146, 3), (35, .iconst 1, 1), (36, .isub, 1), (37, .goto 7, 3), (40, .bipush (-100), 2), (42, .iload_n 1, 1), (43, .isub, 1), (44, .ireturn, 1)]
set_option maxRecDepth 100000 in
theorem zzk_89 : ∀ q ∈ zzc_89, decode cX6_text q.1 = .ok q.2 := by decide +kernel
def zzc_90 : List (Nat × Instr × Nat) := [(0, .iload_n 1, 1), (1, .ifCond .lt 14, 3), (4, .iload_n 1, 1), (5, .aload_n 0, 1), (6, .getfield 12, 3), (9, .getfield 146, 3), (12, .if_icmp .lt 6, 3), (15, .bipush (-2), 2), (17, .ireturn, 1), (18, .aload_n 0, 1), (19, .getfield 28, 3), (22, .getfield 147, 3), (25, .istore_n 2, 1), (26, .aload_n 0, 1), (27, .getfield 28, 3), (30, .iload_n 1, 1), (31, .putfield 147, 3), (34, .iload_n 2, 1), (35, .ireturn, 1)]
set_option maxRecDepth 100000 in
theorem zzk_90 : ∀ q ∈ zzc_90, decode cX6_force q.1 = .ok q.2 := by decide +kernel
def zzc_91 : List (Nat × Instr × Nat) := [(0, .iload_n 1, 1), (1, .tableswitch 51 0 2 #[27, 35, 43], 27), (28, .aload_n 0, 1), (29, .getfield 28, 3), (32, .invokevirtual 150, 3), (35, .ireturn, 1), (36, .aload_n 0, 1), (37, .getfield 28, 3), (40, .invokevirtual 153, 3), (43, .ireturn, 1), (44, .aload_n 0, 1), (45, .getfield 28, 3), (48, .invokevirtual 156, 3), (51, .ireturn, 1), (52, .ldc 159, 2), (54, .ireturn, 1)]
set_option maxRecDepth 100000 in
theorem zzk_91 : ∀ q ∈ zzc_91, decode cX6_all q.1 = .ok q.2 := by decide +kernel
def zzc_92_0 : List (Nat × Instr × Nat) := [(0, .iload_n 2, 1), (1, .ifCond .eq 8, 3), (4, .iload_n 2, 1), (5, .iconst 1, 1), (6, .if_icmp .ne 7, 3), (9, .iconst 1, 1), (10, .goto 4, 3), (13, .iconst 0, 1), (14, .istore_n 3, 1), (15, .iload_n 2, 1), (16, .bipush 10, 2), (18, .if_icmp .lt 27, 3), (21, .iload_n 2, 1), (22, .bipush 30, 2), (24, .if_icmp .ge 21, 3), (27, .aload_n 0, 1), (28, .getfield 28, 3), (31, .iload_n 2, 1), (32, .bipush 10, 2), (34, .irem, 1), (35, .invokevirtual 86, 3), (38, .ifCond .eq 7, 3), (41, .iconst 1, 1), (42, .goto 4, 3), (45, .iconst 0, 1), (46, .istore 4, 2), (48, .iload_n 1, 1), (49, .invokestatic 160, 3), (52, .ifCond .eq 12, 3), (55, .iload_n 3, 1), (56, .ifCond .ne 11, 3), (59, .iload 4, 2), (61, .ifCond .ne 6, 3), (64, .bipush (-2), 2), (66, .ireturn, 1), (67, .aload_n 0, 1), (68, .getfield 45, 3), (71, .aload_n 0, 1), (72, .getfield 28, 3), (75, .iload_n 1, 1), (76, .invokevirtual 163, 3), (79, .aload_n 0, 1), (80, .getfield 45, 3), (83, .iconst (-1), 1), (84, .invokevirtual 167, 3), (87, .istore 5, 2), (89, .iload_n 3, 1), (90, .ifCond .eq 20, 3), (93, .iload_n 2, 1), (94, .ifCond .ne 8, 3)]
set_option maxRecDepth 100000 in
theorem zzk_92_0 : ∀ q ∈ zzc_92_0, decode cX6_ride q.1 = .ok q.2 := by decide +kernel
def zzc_92_1 : List (Nat × Instr × Nat) := [(97, .iload 5, 2), (99, .goto 10, 3), (102, .aload_n 0, 1), (103, .getfield 45, 3), (106, .invokevirtual 170, 3), (109, .ireturn, 1), (110, .iload_n 2, 1), (111, .bipush 20, 2), (113, .if_icmp .ge 13, 3), (116, .aload_n 0, 1), (117, .getfield 45, 3), (120, .getfield 173, 3), (123, .goto 10, 3), (126, .aload_n 0, 1), (127, .getfield 45, 3), (130, .getfield 176, 3), (133, .iload_n 2, 1), (134, .bipush 10, 2), (136, .irem, 1), (137, .invokestatic 179, 3), (140, .ireturn, 1)]
set_option maxRecDepth 100000 in
theorem zzk_92_1 : ∀ q ∈ zzc_92_1, decode cX6_ride q.1 = .ok q.2 := by decide +kernel
def zzc_92 : List (Nat × Instr × Nat) := zzc_92_0 ++ (zzc_92_1)
theorem zzk_92 : ∀ q ∈ zzc_92, decode cX6_ride q.1 = .ok q.2 := List.forall_mem_append.mpr ⟨zzk_92_0, zzk_92_1⟩
def zzc_93 : List (Nat × Instr × Nat) := [(0, .iload_n 0, 1), (1, .ifCond .lt 13, 3), (4, .iload_n 0, 1), (5, .bipush 60, 2), (7, .if_icmp .gt 7, 3), (10, .iconst 1, 1), (11, .goto 4, 3), (14, .iconst 0, 1), (15, .ireturn, 1)]
set_option maxRecDepth 100000 in
theorem zzk_93 : ∀ q ∈ zzc_93, decode cX6_isRide q.1 = .ok q.2 := by decide +kernel
def zzc_94 : List (Nat × Instr × Nat) := [(0, .aload_n 0, 1), (1, .getfield 28, 3), (4, .iload_n 1, 1), (5, .invokevirtual 86, 3), (8, .ifCond .eq 10, 3), (11, .iload_n 2, 1), (12, .invokestatic 183, 3), (15, .ifCond .ne 6, 3), (18, .bipush (-2), 2), (20, .ireturn, 1), (21, .iconst (-1), 1), (22, .istore_n 3, 1), (23, .iconst 0, 1), (24, .istore 4, 2), (26, .iconst 0, 1), (27, .istore 5, 2), (29, .iload 5, 2), (31, .bipush 24, 2), (33, .if_icmp .ge 50, 3), (36, .aload_n 0, 1), (37, .getfield 28, 3), (40, .iload 5, 2), (42, .iload_n 1, 1), (43, .invokevirtual 186, 3), (46, .ifCond .eq 31, 3), (49, .aload_n 0, 1), (50, .iload_n 1, 1), (51, .iload 5, 2), (53, .invokevirtual 190, 3), (56, .istore 6, 2), (58, .iload_n 3, 1), (59, .iconst (-1), 1), (60, .if_icmp .eq 10, 3), (63, .iload 6, 2), (65, .iload 4, 2), (67, .if_icmp .ge 10, 3), (70, .iload 5, 2), (72, .istore_n 3, 1), (73, .iload 6, 2), (75, .istore 4, 2), (77, .iinc 5 1, 3), (80, .goto (-51), 3), (83, .iload_n 2, 1), (84, .ifCond .ne 7, 3), (87, .iload_n 3, 1), (88, .goto 5, 3), (91, .iload 4, 2), (93, .ireturn, 1)]
set_option maxRecDepth 100000 in
theorem zzk_94 : ∀ q ∈ zzc_94, decode cX6_best q.1 = .ok q.2 := by decide +kernel
def zzc_95_0 : List (Nat × Instr × Nat) := [(0, .iload_n 1, 1), (1, .invokestatic 183, 3), (4, .ifCond .ne 6, 3), (7, .bipush (-2), 2), (9, .ireturn, 1), (10, .iconst (-1), 1), (11, .istore_n 2, 1), (12, .aload_n 0, 1), (13, .getfield 28, 3), (16, .invokevirtual 150, 3), (19, .istore_n 3, 1), (20, .iconst 0, 1), (21, .istore 4, 2), (23, .iload 4, 2), (25, .aload_n 0, 1), (26, .getfield 28, 3), (29, .getfield 108, 3), (32, .if_icmp .ge 89, 3), (35, .iload 4, 2), (37, .iconst 1, 1), (38, .iadd, 1), (39, .istore 5, 2), (41, .iload 5, 2), (43, .aload_n 0, 1), (44, .getfield 28, 3), (47, .getfield 108, 3), (50, .if_icmp .ge 65, 3), (53, .aload_n 0, 1), (54, .getfield 28, 3), (57, .iload 4, 2), (59, .invokevirtual 193, 3), (62, .ifCond .eq 26, 3), (65, .aload_n 0, 1), (66, .getfield 28, 3), (69, .iload 5, 2), (71, .invokevirtual 193, 3), (74, .ifCond .eq 14, 3), (77, .aload_n 0, 1), (78, .iload 4, 2), (80, .iload 5, 2), (82, .invokevirtual 196, 3), (85, .goto 4, 3), (88, .iload_n 3, 1), (89, .istore 6, 2), (91, .iload 6, 2), (93, .iload_n 3, 1), (94, .if_icmp .ge 15, 3), (97, .bipush 10, 2), (99, .iload 4, 2), (101, .imul, 1)]
set_option maxRecDepth 100000 in
theorem zzk_95_0 : ∀ q ∈ zzc_95_0, decode cX6_change q.1 = .ok q.2 := by decide +kernel
def zzc_95_1 : List (Nat × Instr × Nat) := [(102, .iload 5, 2), (104, .iadd, 1), (105, .istore_n 2, 1), (106, .iload 6, 2), (108, .istore_n 3, 1), (109, .iinc 5 1, 3), (112, .goto (-71), 3), (115, .iinc 4 1, 3), (118, .goto (-95), 3), (121, .iload_n 1, 1), (122, .ifCond .ne 7, 3), (125, .iload_n 2, 1), (126, .goto 4, 3), (129, .iload_n 3, 1), (130, .ireturn, 1)]
set_option maxRecDepth 100000 in
theorem zzk_95_1 : ∀ q ∈ zzc_95_1, decode cX6_change q.1 = .ok q.2 := by decide +kernel
def zzc_95 : List (Nat × Instr × Nat) := zzc_95_0 ++ (zzc_95_1)
theorem zzk_95 : ∀ q ∈ zzc_95, decode cX6_change q.1 = .ok q.2 := List.forall_mem_append.mpr ⟨zzk_95_0, zzk_95_1⟩
def zzc_96_0 : List (Nat × Instr × Nat) := [(0, .iload_n 1, 1), (1, .invokestatic 183, 3), (4, .ifCond .ne 6, 3), (7, .bipush (-2), 2), (9, .ireturn, 1), (10, .aload_n 0, 1), (11, .getfield 28, 3), (14, .invokevirtual 199, 3), (17, .istore_n 2, 1), (18, .iconst (-1), 1), (19, .istore_n 3, 1), (20, .aload_n 0, 1), (21, .getfield 28, 3), (24, .invokevirtual 150, 3), (27, .istore 4, 2), (29, .iconst 0, 1), (30, .istore 5, 2), (32, .iload 5, 2), (34, .aload_n 0, 1), (35, .getfield 28, 3), (38, .getfield 108, 3), (41, .if_icmp .ge 114, 3), (44, .aload_n 0, 1), (45, .getfield 28, 3), (48, .iload 5, 2), (50, .invokevirtual 193, 3), (53, .ifCond .eq 19, 3), (56, .aload_n 0, 1), (57, .getfield 28, 3), (60, .iload 5, 2), (62, .invokevirtual 202, 3), (65, .ifCond .ne 7, 3), (68, .iconst 1, 1), (69, .goto 4, 3), (72, .iconst 0, 1), (73, .istore 6, 2), (75, .iconst 0, 1), (76, .istore 7, 2), (78, .iload 7, 2), (80, .aload_n 0, 1), (81, .getfield 28, 3), (84, .getfield 108, 3), (87, .if_icmp .ge 62, 3), (90, .iload 6, 2), (92, .ifCond .eq 57, 3), (95, .aload_n 0, 1), (96, .getfield 28, 3), (99, .iload 7, 2), (101, .iload_n 2, 1), (102, .invokevirtual 205, 3)]
set_option maxRecDepth 100000 in
theorem zzk_96_0 : ∀ q ∈ zzc_96_0, decode cX6_watch q.1 = .ok q.2 := by decide +kernel
def zzc_96_1 : List (Nat × Instr × Nat) := [(105, .ifCond .eq 14, 3), (108, .aload_n 0, 1), (109, .iload 5, 2), (111, .iload 7, 2), (113, .invokevirtual 196, 3), (116, .goto 5, 3), (119, .iload 4, 2), (121, .istore 8, 2), (123, .iload 8, 2), (125, .iload 4, 2), (127, .if_icmp .ge 16, 3), (130, .bipush 10, 2), (132, .iload 5, 2), (134, .imul, 1), (135, .iload 7, 2), (137, .iadd, 1), (138, .istore_n 3, 1), (139, .iload 8, 2), (141, .istore 4, 2), (143, .iinc 7 1, 3), (146, .goto (-68), 3), (149, .iinc 5 1, 3), (152, .goto (-120), 3), (155, .iload_n 1, 1), (156, .ifCond .ne 7, 3), (159, .iload_n 3, 1), (160, .goto 5, 3), (163, .iload 4, 2), (165, .ireturn, 1)]
set_option maxRecDepth 100000 in
theorem zzk_96_1 : ∀ q ∈ zzc_96_1, decode cX6_watch q.1 = .ok q.2 := by decide +kernel
def zzc_96 : List (Nat × Instr × Nat) := zzc_96_0 ++ (zzc_96_1)
theorem zzk_96 : ∀ q ∈ zzc_96, decode cX6_watch q.1 = .ok q.2 := List.forall_mem_append.mpr ⟨zzk_96_0, zzk_96_1⟩
def zzc_97 : List (Nat × Instr × Nat) := [(0, .aload_n 0, 1), (1, .iload_n 1, 1), (2, .invokevirtual 208, 3), (5, .astore_n 3, 1), (6, .aload_n 3, 1), (7, .ifnull 25, 3), (10, .iload_n 2, 1), (11, .invokestatic 183, 3), (14, .ifCond .eq 18, 3), (17, .aload_n 0, 1), (18, .getfield 52, 3), (21, .aload_n 3, 1), (22, .aload_n 0, 1), (23, .getfield 28, 3), (26, .invokevirtual 212, 3), (29, .ifCond .ne 6, 3), (32, .ldc 159, 2), (34, .ireturn, 1), (35, .aload_n 0, 1), (36, .getfield 32, 3), (39, .aload_n 0, 1), (40, .getfield 28, 3), (43, .invokevirtual 216, 3), (46, .aload_n 0, 1), (47, .getfield 52, 3), (50, .aload_n 0, 1), (51, .getfield 32, 3), (54, .invokevirtual 220, 3), (57, .iload_n 2, 1), (58, .ifCond .ne 13, 3), (61, .aload_n 0, 1), (62, .getfield 52, 3), (65, .getfield 223, 3), (68, .goto 10, 3), (71, .aload_n 0, 1), (72, .getfield 52, 3), (75, .getfield 226, 3), (78, .ireturn, 1)]
set_option maxRecDepth 100000 in
theorem zzk_97 : ∀ q ∈ zzc_97, decode cX6_hat q.1 = .ok q.2 := by decide +kernel
def zzc_98_0 : List (Nat × Instr × Nat) := [(0, .iload_n 1, 1), (1, .invokestatic 160, 3), (4, .ifCond .eq 10, 3), (7, .iload_n 2, 1), (8, .invokestatic 183, 3), (11, .ifCond .ne 6, 3), (14, .bipush (-2), 2), (16, .ireturn, 1), (17, .aload_n 0, 1), (18, .getfield 28, 3), (21, .invokevirtual 229, 3), (24, .istore_n 3, 1), (25, .iconst (-1), 1), (26, .istore 4, 2), (28, .aload_n 0, 1), (29, .getfield 45, 3), (32, .aload_n 0, 1), (33, .getfield 28, 3), (36, .iload_n 1, 1), (37, .invokevirtual 163, 3), (40, .aload_n 0, 1), (41, .getfield 45, 3), (44, .iconst (-1), 1), (45, .invokevirtual 167, 3), (48, .istore 5, 2), (50, .iconst 0, 1), (51, .istore 6, 2), (53, .iload 6, 2), (55, .aload_n 0, 1), (56, .getfield 28, 3), (59, .getfield 108, 3), (62, .if_icmp .ge 56, 3), (65, .iload_n 3, 1), (66, .iconst (-1), 1), (67, .if_icmp .eq 51, 3), (70, .aload_n 0, 1), (71, .getfield 28, 3), (74, .iload 6, 2), (76, .invokevirtual 193, 3), (79, .ifCond .eq 14, 3), (82, .aload_n 0, 1), (83, .iload 6, 2), (85, .iload_n 3, 1), (86, .iload_n 1, 1), (87, .invokevirtual 232, 3), (90, .goto 5, 3), (93, .iload 5, 2), (95, .istore 7, 2), (97, .iload 7, 2), (99, .iload 5, 2)]
set_option maxRecDepth 100000 in
theorem zzk_98_0 : ∀ q ∈ zzc_98_0, decode cX6_front q.1 = .ok q.2 := by decide +kernel
def zzc_98_1 : List (Nat × Instr × Nat) := [(101, .if_icmp .ge 11, 3), (104, .iload 6, 2), (106, .istore 4, 2), (108, .iload 7, 2), (110, .istore 5, 2), (112, .iinc 6 1, 3), (115, .goto (-62), 3), (118, .iload_n 2, 1), (119, .ifCond .ne 8, 3), (122, .iload 4, 2), (124, .goto 5, 3), (127, .iload 5, 2), (129, .ireturn, 1)]
set_option maxRecDepth 100000 in
theorem zzk_98_1 : ∀ q ∈ zzc_98_1, decode cX6_front q.1 = .ok q.2 := by decide +kernel
def zzc_98 : List (Nat × Instr × Nat) := zzc_98_0 ++ (zzc_98_1)
theorem zzk_98 : ∀ q ∈ zzc_98, decode cX6_front q.1 = .ok q.2 := List.forall_mem_append.mpr ⟨zzk_98_0, zzk_98_1⟩
def zzc_99 : List (Nat × Instr × Nat) := [(0, .iload_n 1, 1), (1, .invokestatic 160, 3), (4, .ifCond .eq 10, 3), (7, .iload_n 2, 1), (8, .invokestatic 183, 3), (11, .ifCond .ne 6, 3), (14, .bipush (-2), 2), (16, .ireturn, 1), (17, .aload_n 0, 1), (18, .getfield 45, 3), (21, .aload_n 0, 1), (22, .getfield 28, 3), (25, .iload_n 1, 1), (26, .invokevirtual 163, 3), (29, .iconst (-1), 1), (30, .istore_n 3, 1), (31, .aload_n 0, 1), (32, .getfield 45, 3), (35, .iconst (-1), 1), (36, .invokevirtual 167, 3), (39, .istore 4, 2), (41, .iconst 0, 1), (42, .istore 5, 2), (44, .iload 5, 2), (46, .iload_n 1, 1), (47, .if_icmp .ge 34, 3), (50, .aload_n 0, 1), (51, .getfield 45, 3), (54, .iload 5, 2), (56, .invokevirtual 167, 3), (59, .istore 6, 2), (61, .iload 6, 2), (63, .iload 4, 2), (65, .if_icmp .ge 10, 3), (68, .iload 5, 2), (70, .istore_n 3, 1), (71, .iload 6, 2), (73, .istore 4, 2), (75, .iinc 5 1, 3), (78, .goto (-34), 3), (81, .iload_n 2, 1), (82, .ifCond .ne 7, 3), (85, .iload_n 3, 1), (86, .goto 5, 3), (89, .iload 4, 2), (91, .ireturn, 1)]
set_option maxRecDepth 100000 in
theorem zzk_99 : ∀ q ∈ zzc_99, decode cX6_stop q.1 = .ok q.2 := by decide +kernel
def zzc_100 : List (Nat × Instr × Nat) := [(0, .iload_n 0, 1), (1, .ifCond .eq 8, 3), (4, .iload_n 0, 1), (5, .iconst 1, 1), (6, .if_icmp .ne 7, 3), (9, .iconst 1, 1), (10, .goto 4, 3), (13, .iconst 0, 1), (14, .ireturn, 1)]
set_option maxRecDepth 100000 in
theorem zzk_100 : ∀ q ∈ zzc_100, decode cX6_isZeroOrOne q.1 = .ok q.2 := by decide +kernel
def zzc_101 : List (Nat × Instr × Nat) := [(0, .aload_n 0, 1), (1, .getfield 32, 3), (4, .aload_n 0, 1), (5, .getfield 28, 3), (8, .invokevirtual 216, 3), (11, .aload_n 0, 1), (12, .getfield 32, 3), (15, .iload_n 1, 1), (16, .iload_n 2, 1), (17, .invokevirtual 120, 3), (20, .aload_n 0, 1), (21, .getfield 32, 3), (24, .invokevirtual 150, 3), (27, .ireturn, 1)]
set_option maxRecDepth 100000 in
theorem zzk_101 : ∀ q ∈ zzc_101, decode cX6_dinMoved q.1 = .ok q.2 := by decide +kernel
def zzc_102 : List (Nat × Instr × Nat) := [(0, .aload_n 0, 1), (1, .getfield 32, 3), (4, .aload_n 0, 1), (5, .getfield 28, 3), (8, .invokevirtual 216, 3), (11, .aload_n 0, 1), (12, .getfield 32, 3), (15, .iload_n 1, 1), (16, .iload_n 2, 1), (17, .invokevirtual 236, 3), (20, .aload_n 0, 1), (21, .getfield 32, 3), (24, .invokevirtual 150, 3), (27, .ireturn, 1)]
set_option maxRecDepth 100000 in
theorem zzk_102 : ∀ q ∈ zzc_102, decode cX6_dinChanged q.1 = .ok q.2 := by decide +kernel
def zzc_103 : List (Nat × Instr × Nat) := [(0, .aload_n 0, 1), (1, .getfield 32, 3), (4, .aload_n 0, 1), (5, .getfield 28, 3), (8, .invokevirtual 216, 3), (11, .aload_n 0, 1), (12, .getfield 32, 3), (15, .iload_n 1, 1), (16, .iload_n 2, 1), (17, .invokevirtual 120, 3), (20, .aload_n 0, 1), (21, .getfield 45, 3), (24, .aload_n 0, 1), (25, .getfield 32, 3), (28, .iload_n 3, 1), (29, .invokevirtual 163, 3), (32, .aload_n 0, 1), (33, .getfield 45, 3), (36, .iconst (-1), 1), (37, .invokevirtual 167, 3), (40, .ireturn, 1)]
set_option maxRecDepth 100000 in
theorem zzk_103 : ∀ q ∈ zzc_103, decode cX6_sickMoved q.1 = .ok q.2 := by decide +kernel
def zzc_104_0 : List (Nat × Instr × Nat) := [(0, .aload_n 0, 1), (1, .iload_n 1, 1), (2, .invokevirtual 208, 3), (5, .astore_n 3, 1), (6, .iload_n 2, 1), (7, .ifCond .lt 12, 3), (10, .iload_n 2, 1), (11, .iconst 3, 1), (12, .if_icmp .gt 7, 3), (15, .iconst 1, 1), (16, .goto 4, 3), (19, .iconst 0, 1), (20, .istore 4, 2), (22, .iload_n 2, 1), (23, .bipush 10, 2), (25, .if_icmp .lt 27, 3), (28, .iload_n 2, 1), (29, .bipush 40, 2), (31, .if_icmp .ge 21, 3), (34, .aload_n 0, 1), (35, .getfield 28, 3), (38, .iload_n 2, 1), (39, .bipush 10, 2), (41, .irem, 1), (42, .invokevirtual 86, 3), (45, .ifCond .eq 7, 3), (48, .iconst 1, 1), (49, .goto 4, 3), (52, .iconst 0, 1), (53, .istore 5, 2), (55, .aload_n 3, 1), (56, .ifnull 13, 3), (59, .iload 4, 2), (61, .ifCond .ne 11, 3), (64, .iload 5, 2), (66, .ifCond .ne 6, 3), (69, .bipush (-2), 2), (71, .ireturn, 1), (72, .aload_n 3, 1), (73, .invokevirtual 239, 3), (76, .ifCond .eq 6, 3), (79, .bipush (-11), 2), (81, .ireturn, 1), (82, .aload_n 3, 1), (83, .getfield 243, 3), (86, .aload_n 0, 1), (87, .getfield 28, 3), (90, .getfield 108, 3), (93, .if_icmp .eq 6, 3), (96, .bipush (-2), 2)]
set_option maxRecDepth 100000 in
theorem zzk_104_0 : ∀ q ∈ zzc_104_0, decode cX6_tells q.1 = .ok q.2 := by decide +kernel
def zzc_104_1 : List (Nat × Instr × Nat) := [(98, .ireturn, 1), (99, .aload_n 0, 1), (100, .getfield 32, 3), (103, .aload_n 0, 1), (104, .getfield 28, 3), (107, .invokevirtual 216, 3), (110, .iload_n 2, 1), (111, .bipush 10, 2), (113, .irem, 1), (114, .istore 6, 2), (116, .iload_n 2, 1), (117, .bipush 10, 2), (119, .idiv, 1), (120, .tableswitch 70 1 3 #[28, 45, 62], 28), (148, .aload_n 0, 1), (149, .aload_n 3, 1), (150, .aload_n 0, 1), (151, .getfield 32, 3), (154, .getfield 244, 3), (157, .iload 6, 2), (159, .bipush 6, 2), (161, .invokevirtual 247, 3), (164, .ireturn, 1), (165, .aload_n 0, 1), (166, .aload_n 3, 1), (167, .aload_n 0, 1), (168, .getfield 32, 3), (171, .getfield 90, 3), (174, .iload 6, 2), (176, .bipush 10, 2), (178, .invokevirtual 247, 3), (181, .ireturn, 1), (182, .aload_n 0, 1), (183, .aload_n 3, 1), (184, .iload 6, 2), (186, .invokevirtual 251, 3), (189, .ireturn, 1), (190, .iload_n 2, 1), (191, .tableswitch 46 0 2 #[25, 34, 40], 25), (216, .aload_n 0, 1), (217, .getfield 32, 3), (220, .aload_n 3, 1), (221, .invokevirtual 255, 3), (224, .ireturn, 1), (225, .aload_n 0, 1), (226, .aload_n 3, 1), (227, .invokevirtual 259, 3), (230, .ireturn, 1), (231, .aload_n 0, 1), (232, .aload_n 3, 1)]
set_option maxRecDepth 100000 in
theorem zzk_104_1 : ∀ q ∈ zzc_104_1, decode cX6_tells q.1 = .ok q.2 := by decide +kernel
def zzc_104_2 : List (Nat × Instr × Nat) := [(233, .invokevirtual 262, 3), (236, .ireturn, 1), (237, .aload_n 0, 1), (238, .aload_n 3, 1), (239, .invokevirtual 265, 3), (242, .ireturn, 1)]
set_option maxRecDepth 100000 in
theorem zzk_104_2 : ∀ q ∈ zzc_104_2, decode cX6_tells q.1 = .ok q.2 := by decide +kernel
def zzc_104 : List (Nat × Instr × Nat) := zzc_104_0 ++ (zzc_104_1 ++ (zzc_104_2))
theorem zzk_104 : ∀ q ∈ zzc_104, decode cX6_tells q.1 = .ok q.2 := List.forall_mem_append.mpr ⟨zzk_104_0, List.forall_mem_append.mpr ⟨zzk_104_1, zzk_104_2⟩⟩
end
section
/-! the code of each method, read off the class files (written by wip/whole/gen1.py) -/
def zzc_105 : List (Nat × Instr × Nat) := [(0, .iconst 0, 1), (1, .istore_n 2, 1), (2, .iconst 0, 1), (3, .istore_n 3, 1), (4, .iload_n 3, 1), (5, .aload_n 0, 1), (6, .getfield 12, 3), (9, .getfield 146, 3), (12, .if_icmp .ge 34, 3), (15, .aload_n 0, 1), (16, .getfield 32, 3), (19, .iload_n 3, 1), (20, .putfield 147, 3), (23, .aload_n 0, 1), (24, .getfield 32, 3), (27, .aload_n 1, 1), (28, .invokevirtual 255, 3), (31, .ifCond .ne 9, 3), (34, .iload_n 2, 1), (35, .iconst 1, 1), (36, .iload_n 3, 1), (37, .ishl, 1), (38, .ior, 1), (39, .istore_n 2, 1), (40, .iinc 3 1, 3), (43, .goto (-39), 3), (46, .iload_n 2, 1), (47, .ireturn, 1)]
set_option maxRecDepth 100000 in
theorem zzk_105 : ∀ q ∈ zzc_105, decode cX6_textsTold q.1 = .ok q.2 := by decide +kernel
def zzc_106 : List (Nat × Instr × Nat) := [(0, .iconst 0, 1), (1, .istore_n 2, 1), (2, .iconst 0, 1), (3, .istore_n 3, 1), (4, .iload_n 3, 1), (5, .bipush 99, 2), (7, .if_icmp .gt 31, 3), (10, .aload_n 0, 1), (11, .getfield 32, 3), (14, .iload_n 3, 1), (15, .putfield 101, 3), (18, .aload_n 0, 1), (19, .getfield 32, 3), (22, .aload_n 1, 1), (23, .invokevirtual 255, 3), (26, .ifCond .ne 6, 3), (29, .iinc 2 1, 3), (32, .iinc 3 1, 3), (35, .goto (-31), 3), (38, .iload_n 2, 1), (39, .ireturn, 1)]
set_option maxRecDepth 100000 in
theorem zzk_106 : ∀ q ∈ zzc_106, decode cX6_milesTold q.1 = .ok q.2 := by decide +kernel
def zzc_107 : List (Nat × Instr × Nat) := [(0, .iconst 0, 1), (1, .istore_n 2, 1), (2, .iload_n 2, 1), (3, .bipush 99, 2), (5, .if_icmp .gt 30, 3), (8, .aload_n 0, 1), (9, .getfield 32, 3), (12, .iload_n 2, 1), (13, .putfield 101, 3), (16, .aload_n 0, 1), (17, .getfield 32, 3), (20, .aload_n 1, 1), (21, .invokevirtual 255, 3), (24, .ifCond .ne 5, 3), (27, .iload_n 2, 1), (28, .ireturn, 1), (29, .iinc 2 1, 3), (32, .goto (-30), 3), (35, .iconst (-1), 1), (36, .ireturn, 1)]
set_option maxRecDepth 100000 in
theorem zzk_107 : ∀ q ∈ zzc_107, decode cX6_leastMileTold q.1 = .ok q.2 := by decide +kernel
def zzc_108 : List (Nat × Instr × Nat) := [(0, .iconst 0, 1), (1, .istore 5, 2), (3, .iconst 0, 1), (4, .istore 6, 2), (6, .iload 6, 2), (8, .iload 4, 2), (10, .if_icmp .ge 36, 3), (13, .aload_n 2, 1), (14, .iload_n 3, 1), (15, .iload 6, 2), (17, .invokestatic 268, 3), (20, .aload_n 0, 1), (21, .getfield 32, 3), (24, .aload_n 1, 1), (25, .invokevirtual 255, 3), (28, .ifCond .ne 12, 3), (31, .iload 5, 2), (33, .iconst 1, 1), (34, .iload 6, 2), (36, .ishl, 1), (37, .ior, 1), (38, .istore 5, 2), (40, .iinc 6 1, 3), (43, .goto (-37), 3), (46, .iload 5, 2), (48, .ireturn, 1)]
set_option maxRecDepth 100000 in
theorem zzk_108 : ∀ q ∈ zzc_108, decode cX6_itemsTold q.1 = .ok q.2 := by decide +kernel
def zzc_109 : List (Nat × Instr × Nat) := [(0, .iconst 0, 1), (1, .istore_n 3, 1), (2, .iconst 0, 1), (3, .istore 4, 2), (5, .iload 4, 2), (7, .bipush 24, 2), (9, .if_icmp .ge 50, 3), (12, .aload_n 0, 1), (13, .getfield 28, 3), (16, .iload 4, 2), (18, .iload_n 2, 1), (19, .invokevirtual 186, 3), (22, .ifCond .eq 31, 3), (25, .aload_n 0, 1), (26, .getfield 32, 3), (29, .iload_n 2, 1), (30, .iload 4, 2), (32, .invokevirtual 120, 3), (35, .aload_n 0, 1), (36, .getfield 32, 3), (39, .aload_n 1, 1), (40, .invokevirtual 255, 3), (43, .ifCond .ne 10, 3), (46, .iload_n 3, 1), (47, .iconst 1, 1), (48, .iload 4, 2), (50, .ishl, 1), (51, .ior, 1), (52, .istore_n 3, 1), (53, .iinc 4 1, 3), (56, .goto (-51), 3), (59, .iload_n 3, 1), (60, .ireturn, 1)]
set_option maxRecDepth 100000 in
theorem zzk_109 : ∀ q ∈ zzc_109, decode cX6_seatsTold q.1 = .ok q.2 := by decide +kernel
def zzc_110 : List (Nat × Instr × Nat) := [(0, .aload_n 0, 1), (1, .iload_n 1, 1), (2, .invokevirtual 208, 3), (5, .astore_n 2, 1), (6, .aload_n 2, 1), (7, .ifnonnull 6, 3), (10, .bipush (-2), 2), (12, .ireturn, 1), (13, .aload_n 2, 1), (14, .iconst 1, 1), (15, .aload_n 0, 1), (16, .getfield 28, 3), (19, .getfield 108, 3), (22, .invokevirtual 272, 3), (25, .iconst 0, 1), (26, .istore_n 3, 1), (27, .iload_n 3, 1), (28, .aload_n 0, 1), (29, .getfield 28, 3), (32, .getfield 108, 3), (35, .if_icmp .ge 22, 3), (38, .aload_n 2, 1), (39, .iload_n 3, 1), (40, .aload_n 0, 1), (41, .getfield 28, 3), (44, .iload_n 3, 1), (45, .invokevirtual 133, 3), (48, .invokevirtual 275, 3), (51, .iinc 3 1, 3), (54, .goto (-27), 3), (57, .aload_n 0, 1), (58, .getfield 28, 3), (61, .getfield 108, 3), (64, .ireturn, 1)]
set_option maxRecDepth 100000 in
theorem zzk_110 : ∀ q ∈ zzc_110, decode cX6_film q.1 = .ok q.2 := by decide +kernel
def zzc_111_0 : List (Nat × Instr × Nat) := [(0, .aload_n 0, 1), (1, .getfield 32, 3), (4, .aload_n 0, 1), (5, .getfield 28, 3), (8, .invokevirtual 216, 3), (11, .iconst 0, 1), (12, .istore_n 2, 1), (13, .iload_n 2, 1), (14, .aload_n 0, 1), (15, .getfield 32, 3), (18, .getfield 108, 3), (21, .if_icmp .ge 18, 3), (24, .aload_n 0, 1), (25, .getfield 32, 3), (28, .iload_n 2, 1), (29, .iconst (-1), 1), (30, .invokevirtual 120, 3), (33, .iinc 2 1, 3), (36, .goto (-23), 3), (39, .iload_n 1, 1), (40, .istore_n 2, 1), (41, .iconst 0, 1), (42, .istore_n 3, 1), (43, .iload_n 3, 1), (44, .aload_n 0, 1), (45, .getfield 32, 3), (48, .getfield 108, 3), (51, .if_icmp .ge 41, 3), (54, .iload_n 2, 1), (55, .ldc_w 278, 3), (58, .imul, 1), (59, .sipush 12345, 3), (62, .iadd, 1), (63, .istore_n 2, 1), (64, .aload_n 0, 1), (65, .getfield 32, 3), (68, .iload_n 3, 1), (69, .aload_n 0, 1), (70, .getfield 32, 3), (73, .iload_n 2, 1), (74, .bipush 9, 2), (76, .iushr, 1), (77, .bipush 24, 2), (79, .irem, 1), (80, .invokevirtual 279, 3), (83, .invokevirtual 120, 3), (86, .iinc 3 1, 3), (89, .goto (-46), 3), (92, .aload_n 0, 1), (93, .getfield 32, 3)]
set_option maxRecDepth 100000 in
theorem zzk_111_0 : ∀ q ∈ zzc_111_0, decode cX6_drawn q.1 = .ok q.2 := by decide +kernel
def zzc_111_1 : List (Nat × Instr × Nat) := [(96, .invokevirtual 150, 3), (99, .ireturn, 1)]
set_option maxRecDepth 100000 in
theorem zzk_111_1 : ∀ q ∈ zzc_111_1, decode cX6_drawn q.1 = .ok q.2 := by decide +kernel
def zzc_111 : List (Nat × Instr × Nat) := zzc_111_0 ++ (zzc_111_1)
theorem zzk_111 : ∀ q ∈ zzc_111, decode cX6_drawn q.1 = .ok q.2 := List.forall_mem_append.mpr ⟨zzk_111_0, zzk_111_1⟩
def zzc_112 : List (Nat × Instr × Nat) := [(0, .iload_n 2, 1), (1, .iconst 1, 1), (2, .if_icmp .lt 16, 3), (5, .iload_n 2, 1), (6, .bipush 20, 2), (8, .if_icmp .gt 10, 3), (11, .iload_n 3, 1), (12, .invokestatic 183, 3), (15, .ifCond .ne 7, 3), (18, .ldc2_w 282, 3), (21, .lreturn, 1), (22, .aload_n 0, 1), (23, .getfield 28, 3), (26, .invokevirtual 150, 3), (29, .istore 4, 2), (31, .iconst 0, 1), (32, .istore 5, 2), (34, .iconst 0, 1), (35, .istore 6, 2), (37, .iload 6, 2), (39, .iload_n 2, 1), (40, .if_icmp .ge 25, 3), (43, .aload_n 0, 1), (44, .iload_n 1, 1), (45, .iload 6, 2), (47, .iadd, 1), (48, .invokevirtual 284, 3), (51, .iload 4, 2), (53, .if_icmp .gt 6, 3), (56, .iinc 5 1, 3), (59, .iinc 6 1, 3), (62, .goto (-25), 3), (65, .iload_n 3, 1), (66, .ifCond .ne 15, 3), (69, .iload 5, 2), (71, .iload 5, 2), (73, .iload_n 2, 1), (74, .invokestatic 287, 3), (77, .i2l, 1), (78, .goto 11, 3), (81, .iload_n 2, 1), (82, .iload 5, 2), (84, .iload_n 2, 1), (85, .invokestatic 287, 3), (88, .i2l, 1), (89, .lreturn, 1)]
set_option maxRecDepth 100000 in
theorem zzk_112 : ∀ q ∈ zzc_112, decode cX6_chance q.1 = .ok q.2 := by decide +kernel
def zzc_113 : List (Nat × Instr × Nat) := [(0, .iload_n 2, 1), (1, .istore_n 3, 1), (2, .iload_n 3, 1), (3, .iconst 1, 1), (4, .if_icmp .le 25, 3), (7, .iload_n 1, 1), (8, .iload_n 3, 1), (9, .irem, 1), (10, .ifCond .ne 13, 3), (13, .iload_n 2, 1), (14, .iload_n 3, 1), (15, .irem, 1), (16, .ifCond .ne 7, 3), (19, .iload_n 0, 1), (20, .iload_n 3, 1), (21, .idiv, 1), (22, .ireturn, 1), (23, .iinc 3 (-1), 3), (26, .goto (-24), 3), (29, .iload_n 0, 1), (30, .ireturn, 1)]
set_option maxRecDepth 100000 in
theorem zzk_113 : ∀ q ∈ zzc_113, decode cX6_lowered q.1 = .ok q.2 := by decide +kernel
def zzc_114 : List (Nat × Instr × Nat) := [(0, .aload_n 0, 1), (1, .getfield 35, 3), (4, .aload_n 0, 1), (5, .getfield 28, 3), (8, .invokevirtual 216, 3), (11, .aload_n 0, 1), (12, .iconst 1, 1), (13, .putfield 38, 3), (16, .aload_n 0, 1), (17, .getfield 28, 3), (20, .getfield 108, 3), (23, .ireturn, 1)]
set_option maxRecDepth 100000 in
theorem zzk_114 : ∀ q ∈ zzc_114, decode cX6_image q.1 = .ok q.2 := by decide +kernel
def zzc_115 : List (Nat × Instr × Nat) := [(0, .aload_n 0, 1), (1, .getfield 38, 3), (4, .ifCond .ne 6, 3), (7, .bipush (-3), 2), (9, .ireturn, 1), (10, .aload_n 0, 1), (11, .getfield 28, 3), (14, .aload_n 0, 1), (15, .getfield 35, 3), (18, .invokevirtual 216, 3), (21, .aload_n 0, 1), (22, .getfield 28, 3), (25, .getfield 108, 3), (28, .ireturn, 1)]
set_option maxRecDepth 100000 in
theorem zzk_115 : ∀ q ∈ zzc_115, decode cX6_back q.1 = .ok q.2 := by decide +kernel
def zzc_116 : List (Nat × Instr × Nat) := [(0, .iload_n 1, 1), (1, .tableswitch 75 0 4 #[35, 43, 51, 59, 67], 35), (36, .aload_n 0, 1), (37, .getfield 28, 3), (40, .getfield 108, 3), (43, .ireturn, 1), (44, .aload_n 0, 1), (45, .getfield 28, 3), (48, .invokevirtual 290, 3), (51, .ireturn, 1), (52, .aload_n 0, 1), (53, .getfield 12, 3), (56, .getfield 146, 3), (59, .ireturn, 1), (60, .aload_n 0, 1), (61, .getfield 21, 3), (64, .getfield 145, 3), (67, .ireturn, 1), (68, .aload_n 0, 1), (69, .getfield 28, 3), (72, .getfield 147, 3), (75, .ireturn, 1), (76, .bipush (-2), 2), (78, .ireturn, 1)]
set_option maxRecDepth 100000 in
theorem zzk_116 : ∀ q ∈ zzc_116, decode cX6_count q.1 = .ok q.2 := by decide +kernel
def zzc_117 : List (Nat × Instr × Nat) := [(0, .aload_n 0, 1), (1, .iload_n 1, 1), (2, .invokevirtual 208, 3), (5, .astore 4, 2), (7, .aload 4, 2), (9, .ifnull 13, 3), (12, .iload_n 2, 1), (13, .iconst (-1), 1), (14, .if_icmp .lt 8, 3), (17, .iload_n 2, 1), (18, .iconst 2, 1), (19, .if_icmp .le 6, 3), (22, .bipush (-2), 2), (24, .ireturn, 1), (25, .iload_n 2, 1), (26, .iconst (-1), 1), (27, .if_icmp .ne 12, 3), (30, .aload 4, 2), (32, .iconst (-1), 1), (33, .iconst 0, 1), (34, .invokevirtual 272, 3), (37, .iconst 1, 1), (38, .ireturn, 1), (39, .iload_n 3, 1), (40, .bipush 40, 2), (42, .if_icmp .le 6, 3), (45, .bipush (-2), 2), (47, .ireturn, 1), (48, .iload_n 3, 1), (49, .ifCond .ge 6, 3), (52, .bipush (-14), 2), (54, .ireturn, 1), (55, .aload 4, 2), (57, .iload_n 2, 1), (58, .iload_n 3, 1), (59, .invokevirtual 272, 3), (62, .iconst 1, 1), (63, .ireturn, 1)]
set_option maxRecDepth 100000 in
theorem zzk_117 : ∀ q ∈ zzc_117, decode cX6_sheet q.1 = .ok q.2 := by decide +kernel
def zzc_118 : List (Nat × Instr × Nat) := [(0, .aload_n 0, 1), (1, .iload_n 1, 1), (2, .invokevirtual 208, 3), (5, .astore 4, 2), (7, .aload 4, 2), (9, .ifnonnull 6, 3), (12, .bipush (-2), 2), (14, .ireturn, 1), (15, .aload 4, 2), (17, .invokevirtual 239, 3), (20, .ifCond .eq 6, 3), (23, .bipush (-11), 2), (25, .ireturn, 1), (26, .aload 4, 2), (28, .iload_n 2, 1), (29, .invokevirtual 293, 3), (32, .ifCond .ne 6, 3), (35, .bipush (-12), 2), (37, .ireturn, 1), (38, .aload 4, 2), (40, .iload_n 2, 1), (41, .iload_n 3, 1), (42, .invokevirtual 275, 3), (45, .iconst 1, 1), (46, .ireturn, 1)]
set_option maxRecDepth 100000 in
theorem zzk_118 : ∀ q ∈ zzc_118, decode cX6_cell q.1 = .ok q.2 := by decide +kernel
def zzc_119_0 : List (Nat × Instr × Nat) := [(0, .aload_n 0, 1), (1, .iload_n 1, 1), (2, .invokevirtual 208, 3), (5, .astore 6, 2), (7, .aload_n 0, 1), (8, .iload_n 3, 1), (9, .invokevirtual 208, 3), (12, .astore 7, 2), (14, .aload 6, 2), (16, .ifnull 8, 3), (19, .aload 7, 2), (21, .ifnonnull 6, 3), (24, .bipush (-2), 2), (26, .ireturn, 1), (27, .aload 6, 2), (29, .invokevirtual 239, 3), (32, .ifCond .ne 11, 3), (35, .aload 7, 2), (37, .invokevirtual 239, 3), (40, .ifCond .eq 6, 3), (43, .bipush (-11), 2), (45, .ireturn, 1), (46, .aload 6, 2), (48, .getfield 294, 3), (51, .aload 7, 2), (53, .getfield 294, 3), (56, .if_icmp .eq 6, 3), (59, .bipush (-13), 2), (61, .ireturn, 1), (62, .aload 6, 2), (64, .iload_n 2, 1), (65, .iload 5, 2), (67, .invokevirtual 297, 3), (70, .ifCond .eq 15, 3), (73, .aload 7, 2), (75, .iload 4, 2), (77, .iload 5, 2), (79, .invokevirtual 297, 3), (82, .ifCond .ne 6, 3), (85, .bipush (-12), 2), (87, .ireturn, 1), (88, .aload 6, 2), (90, .getfield 300, 3), (93, .iload_n 2, 1), (94, .aload 7, 2), (96, .getfield 300, 3), (99, .iload 4, 2), (101, .iload 5, 2), (103, .invokestatic 303, 3), (106, .iload 5, 2)]
set_option maxRecDepth 100000 in
theorem zzk_119_0 : ∀ q ∈ zzc_119_0, decode cX6_copy q.1 = .ok q.2 := by decide +kernel
def zzc_119_1 : List (Nat × Instr × Nat) := [(108, .ireturn, 1)]
set_option maxRecDepth 100000 in
theorem zzk_119_1 : ∀ q ∈ zzc_119_1, decode cX6_copy q.1 = .ok q.2 := by decide +kernel
def zzc_119 : List (Nat × Instr × Nat) := zzc_119_0 ++ (zzc_119_1)
theorem zzk_119 : ∀ q ∈ zzc_119, decode cX6_copy q.1 = .ok q.2 := List.forall_mem_append.mpr ⟨zzk_119_0, zzk_119_1⟩
def zzc_120_0 : List (Nat × Instr × Nat) := [(0, .aload_n 0, 1), (1, .iload_n 1, 1), (2, .invokevirtual 208, 3), (5, .astore 5, 2), (7, .aload 5, 2), (9, .ifnull 24, 3), (12, .iload_n 2, 1), (13, .ifCond .lt 20, 3), (16, .iload_n 2, 1), (17, .iconst 2, 1), (18, .if_icmp .gt 15, 3), (21, .iload 4, 2), (23, .ifCond .lt 10, 3), (26, .iload 4, 2), (28, .bipush 8, 2), (30, .if_icmp .le 6, 3), (33, .bipush (-2), 2), (35, .ireturn, 1), (36, .aload 5, 2), (38, .invokevirtual 239, 3), (41, .ifCond .ne 15, 3), (44, .aload 5, 2), (46, .getfield 294, 3), (49, .iload_n 2, 1), (50, .if_icmp .eq 6, 3), (53, .bipush (-13), 2), (55, .ireturn, 1), (56, .aload 5, 2), (58, .invokevirtual 239, 3), (61, .ifCond .eq 6, 3), (64, .bipush (-11), 2), (66, .ireturn, 1), (67, .iconst 0, 1), (68, .istore 6, 2), (70, .iconst 0, 1), (71, .istore 7, 2), (73, .iload 7, 2), (75, .iload 4, 2), (77, .if_icmp .ge 68, 3), (80, .iload_n 3, 1), (81, .iconst 2, 1), (82, .iload 7, 2), (84, .imul, 1), (85, .iadd, 1), (86, .istore 8, 2), (88, .aload 5, 2), (90, .iload 8, 2), (92, .invokevirtual 293, 3), (95, .ifCond .eq 15, 3), (98, .aload 5, 2)]
set_option maxRecDepth 100000 in
theorem zzk_120_0 : ∀ q ∈ zzc_120_0, decode cX6_passengers q.1 = .ok q.2 := by decide +kernel
def zzc_120_1 : List (Nat × Instr × Nat) := [(100, .iload 8, 2), (102, .iconst 1, 1), (103, .iadd, 1), (104, .invokevirtual 293, 3), (107, .ifCond .ne 6, 3), (110, .bipush (-12), 2), (112, .ireturn, 1), (113, .aload_n 0, 1), (114, .aload 5, 2), (116, .iload 8, 2), (118, .invokevirtual 309, 3), (121, .aload 5, 2), (123, .iload 8, 2), (125, .iconst 1, 1), (126, .iadd, 1), (127, .invokevirtual 309, 3), (130, .invokevirtual 312, 3), (133, .ifCond .lt 6, 3), (136, .iinc 6 1, 3), (139, .iinc 7 1, 3), (142, .goto (-69), 3), (145, .iload 6, 2), (147, .ireturn, 1)]
set_option maxRecDepth 100000 in
theorem zzk_120_1 : ∀ q ∈ zzc_120_1, decode cX6_passengers q.1 = .ok q.2 := by decide +kernel
def zzc_120 : List (Nat × Instr × Nat) := zzc_120_0 ++ (zzc_120_1)
theorem zzk_120 : ∀ q ∈ zzc_120, decode cX6_passengers q.1 = .ok q.2 := List.forall_mem_append.mpr ⟨zzk_120_0, zzk_120_1⟩
def zzc_121 : List (Nat × Instr × Nat) := [(0, .iload_n 2, 1), (1, .ifCond .lt 9, 3), (4, .iload_n 2, 1), (5, .bipush 6, 2), (7, .if_icmp .lt 6, 3), (10, .bipush (-2), 2), (12, .ireturn, 1), (13, .aload_n 0, 1), (14, .getfield 28, 3), (17, .iload_n 1, 1), (18, .invokevirtual 86, 3), (21, .ifCond .ne 6, 3), (24, .bipush (-11), 2), (26, .ireturn, 1), (27, .aload_n 0, 1), (28, .getfield 28, 3), (31, .iload_n 1, 1), (32, .invokevirtual 130, 3), (35, .iload_n 2, 1), (36, .invokestatic 315, 3), (39, .ifCond .eq 14, 3), (42, .aload_n 0, 1), (43, .getfield 28, 3), (46, .iload_n 1, 1), (47, .invokevirtual 124, 3), (50, .goto 5, 3), (53, .bipush (-13), 2), (55, .ireturn, 1)]
set_option maxRecDepth 100000 in
theorem zzk_121 : ∀ q ∈ zzc_121, decode cX6_taken q.1 = .ok q.2 := by decide +kernel
def zzc_122 : List (Nat × Instr × Nat) := [(0, .iload_n 0, 1), (1, .istore_n 2, 1), (2, .iconst 0, 1), (3, .istore_n 3, 1), (4, .iload_n 3, 1), (5, .bipush 6, 2), (7, .if_icmp .ge 24, 3), (10, .iload_n 2, 1), (11, .iload_n 1, 1), (12, .if_icmp .eq 19, 3), (15, .iload_n 2, 1), (16, .iconst (-1), 1), (17, .if_icmp .eq 14, 3), (20, .iload_n 2, 1), (21, .invokestatic 318, 3), (24, .istore_n 2, 1), (25, .iinc 3 1, 3), (28, .goto (-24), 3), (31, .iload_n 2, 1), (32, .iload_n 1, 1), (33, .if_icmp .ne 7, 3), (36, .iconst 1, 1), (37, .goto 4, 3), (40, .iconst 0, 1), (41, .ireturn, 1)]
set_option maxRecDepth 100000 in
theorem zzk_122 : ∀ q ∈ zzc_122, decode cX6_isUnder q.1 = .ok q.2 := by decide +kernel
def zzc_123 : List (Nat × Instr × Nat) := [(0, .iload_n 0, 1), (1, .tableswitch 41 1 5 #[35, 35, 37, 39, 35], 35), (36, .iconst 0, 1), (37, .ireturn, 1), (38, .iconst 1, 1), (39, .ireturn, 1), (40, .iconst 2, 1), (41, .ireturn, 1), (42, .iconst (-1), 1), (43, .ireturn, 1)]
set_option maxRecDepth 100000 in
theorem zzk_123 : ∀ q ∈ zzc_123, decode cX6_kindAbove q.1 = .ok q.2 := by decide +kernel
def zzc_124 : List (Nat × Instr × Nat) := [(0, .iload_n 1, 1), (1, .ifCond .lt 21, 3), (4, .iload_n 1, 1), (5, .aload_n 0, 1), (6, .getfield 58, 3), (9, .arraylength, 1), (10, .if_icmp .ge 12, 3), (13, .aload_n 0, 1), (14, .getfield 58, 3), (17, .iload_n 1, 1), (18, .aaload, 1), (19, .goto 4, 3), (22, .aconst_null, 1), (23, .areturn, 1)]
set_option maxRecDepth 100000 in
theorem zzk_124 : ∀ q ∈ zzc_124, decode cX6_sheetAt q.1 = .ok q.2 := by decide +kernel
def zzc_125 : List (Nat × Instr × Nat) := [(0, .iload_n 1, 1), (1, .ifCond .lt 15, 3), (4, .iload_n 1, 1), (5, .aload_n 0, 1), (6, .arraylength, 1), (7, .if_icmp .ge 9, 3), (10, .aload_n 0, 1), (11, .iload_n 1, 1), (12, .iaload, 1), (13, .goto 4, 3), (16, .iconst 0, 1), (17, .ireturn, 1)]
set_option maxRecDepth 100000 in
theorem zzk_125 : ∀ q ∈ zzc_125, decode cX6_itemAt q.1 = .ok q.2 := by decide +kernel
def zzc_126 : List (Nat × Instr × Nat) := [(0, .iload_n 1, 1), (1, .ifCond .lt 13, 3), (4, .iload_n 1, 1), (5, .aload_n 0, 1), (6, .arraylength, 1), (7, .if_icmp .ge 7, 3), (10, .aload_n 0, 1), (11, .iload_n 1, 1), (12, .iload_n 2, 1), (13, .iastore, 1), (14, .return_, 1)]
set_option maxRecDepth 100000 in
theorem zzk_126 : ∀ q ∈ zzc_126, decode cX6_put q.1 = .ok q.2 := by decide +kernel
def zzc_127 : List (Nat × Instr × Nat) := [(0, .aload_n 0, 1), (1, .iload_n 1, 1), (2, .invokestatic 179, 3), (5, .istore_n 3, 1), (6, .aload_n 0, 1), (7, .iload_n 1, 1), (8, .iload_n 2, 1), (9, .invokestatic 268, 3), (12, .iload_n 3, 1), (13, .ireturn, 1)]
set_option maxRecDepth 100000 in
theorem zzk_127 : ∀ q ∈ zzc_127, decode cX6_swapItem q.1 = .ok q.2 := by decide +kernel
def zzc_128 : List (Nat × Instr × Nat) := [(0, .iconst 0, 1), (1, .istore_n 2, 1), (2, .iload_n 2, 1), (3, .aload_n 0, 1), (4, .arraylength, 1), (5, .if_icmp .ge 13, 3), (8, .aload_n 0, 1), (9, .iload_n 2, 1), (10, .iload_n 1, 1), (11, .iastore, 1), (12, .iinc 2 1, 3), (15, .goto (-13), 3), (18, .return_, 1)]
set_option maxRecDepth 100000 in
theorem zzk_128 : ∀ q ∈ zzc_128, decode cX6_fill q.1 = .ok q.2 := by decide +kernel
def zzc_129 : List (Nat × Instr × Nat) := [(0, .aload_n 0, 1), (1, .arraylength, 1), (2, .aload_n 1, 1), (3, .arraylength, 1), (4, .if_icmp .ne 12, 3), (7, .aload_n 1, 1), (8, .iconst 0, 1), (9, .aload_n 0, 1), (10, .iconst 0, 1), (11, .aload_n 0, 1), (12, .arraylength, 1), (13, .invokestatic 303, 3), (16, .return_, 1)]
set_option maxRecDepth 100000 in
theorem zzk_129 : ∀ q ∈ zzc_129, decode cX6_fillFrom q.1 = .ok q.2 := by decide +kernel
def zzc_130 : List (Nat × Instr × Nat) := [(0, .iload_n 0, 1), (1, .iconst (-1), 1), (2, .if_icmp .ne 7, 3), (5, .iconst (-1), 1), (6, .goto 18, 3), (9, .iload_n 0, 1), (10, .iconst 2, 1), (11, .irem, 1), (12, .ifCond .ne 9, 3), (15, .iload_n 0, 1), (16, .iconst 1, 1), (17, .iadd, 1), (18, .goto 6, 3), (21, .iload_n 0, 1), (22, .iconst 1, 1), (23, .isub, 1), (24, .ireturn, 1)]
set_option maxRecDepth 100000 in
theorem zzk_130 : ∀ q ∈ zzc_130, decode cX6_pairSeat q.1 = .ok q.2 := by decide +kernel
def zzc_131 : List (Nat × Instr × Nat) := [(0, .iload_n 0, 1), (1, .bipush 21, 2), (3, .if_icmp .ne 8, 3), (6, .bipush 22, 2), (8, .goto 15, 3), (11, .iload_n 0, 1), (12, .bipush 22, 2), (14, .if_icmp .ne 8, 3), (17, .bipush 21, 2), (19, .goto 4, 3), (22, .iconst (-1), 1), (23, .ireturn, 1)]
set_option maxRecDepth 100000 in
theorem zzk_131 : ∀ q ∈ zzc_131, decode cX6_crossSeat q.1 = .ok q.2 := by decide +kernel
def zzc_132 : List (Nat × Instr × Nat) := [(0, .iconst 2, 1), (1, .iload_n 1, 1), (2, .imul, 1), (3, .iload_n 2, 1), (4, .iconst 5, 1), (5, .if_icmp .ne 7, 3), (8, .iload_n 3, 1), (9, .goto 4, 3), (12, .iconst 0, 1), (13, .iadd, 1), (14, .istore 5, 2), (16, .iload_n 1, 1), (17, .iconst 2, 1), (18, .idiv, 1), (19, .istore 6, 2), (21, .iload_n 0, 1), (22, .tableswitch 61 1 5 #[34, 37, 40, 54, 59], 34), (56, .iload 5, 2), (58, .ireturn, 1), (59, .iload 6, 2), (61, .ireturn, 1), (62, .iload 4, 2), (64, .ifCond .eq 7, 3), (67, .iconst 0, 1), (68, .goto 7, 3), (71, .iload 5, 2), (73, .iconst 5, 1), (74, .iadd, 1), (75, .ireturn, 1), (76, .iload 6, 2), (78, .iload_n 3, 1), (79, .iadd, 1), (80, .ireturn, 1), (81, .iconst 0, 1), (82, .ireturn, 1), (83, .iload_n 1, 1), (84, .ireturn, 1)]
set_option maxRecDepth 100000 in
theorem zzk_132 : ∀ q ∈ zzc_132, decode cX6_noiseBy q.1 = .ok q.2 := by decide +kernel
def zzc_133 : List (Nat × Instr × Nat) := [(0, .iconst 2, 1), (1, .iload_n 1, 1), (2, .imul, 1), (3, .iload_n 2, 1), (4, .iadd, 1), (5, .istore_n 3, 1), (6, .iload_n 0, 1), (7, .tableswitch 48 2 5 #[29, 31, 42, 46], 29), (36, .iload_n 3, 1), (37, .ireturn, 1), (38, .iload_n 2, 1), (39, .iconst 5, 1), (40, .if_icmp .ne 7, 3), (43, .iconst 0, 1), (44, .goto 4, 3), (47, .iload_n 1, 1), (48, .ireturn, 1), (49, .iload_n 3, 1), (50, .iconst 2, 1), (51, .idiv, 1), (52, .ireturn, 1), (53, .iconst 0, 1), (54, .ireturn, 1), (55, .iload_n 1, 1), (56, .ireturn, 1)]
set_option maxRecDepth 100000 in
theorem zzk_133 : ∀ q ∈ zzc_133, decode cX6_queasyBy q.1 = .ok q.2 := by decide +kernel
def zzc_134 : List (Nat × Instr × Nat) := [(0, .iload_n 3, 1), (1, .ifCond .eq 10, 3), (4, .iload_n 1, 1), (5, .bipush 10, 2), (7, .iadd, 1), (8, .goto 4, 3), (11, .iload_n 1, 1), (12, .istore 4, 2), (14, .iload_n 2, 1), (15, .iconst 5, 1), (16, .if_icmp .ne 10, 3), (19, .iload 4, 2), (21, .iconst 5, 1), (22, .iadd, 1), (23, .goto 5, 3), (26, .iload 4, 2), (28, .istore 5, 2), (30, .iload_n 0, 1), (31, .tableswitch 51 1 5 #[33, 36, 41, 46, 48], 33), (64, .iload 5, 2), (66, .ireturn, 1), (67, .iload 4, 2), (69, .iload_n 2, 1), (70, .isub, 1), (71, .ireturn, 1), (72, .iconst 2, 1), (73, .iload 5, 2), (75, .imul, 1), (76, .ireturn, 1), (77, .iconst 3, 1), (78, .ireturn, 1), (79, .iload_n 1, 1), (80, .ineg, 1), (81, .ireturn, 1), (82, .iload 4, 2), (84, .ireturn, 1)]
set_option maxRecDepth 100000 in
theorem zzk_134 : ∀ q ∈ zzc_134, decode cX6_gladBy q.1 = .ok q.2 := by decide +kernel
def zzc_135 : List (Nat × Instr × Nat) := [(0, .iload_n 0, 1), (1, .iload_n 1, 1), (2, .if_icmp .ge 7, 3), (5, .iload_n 1, 1), (6, .goto 13, 3), (9, .iload_n 0, 1), (10, .iload_n 2, 1), (11, .if_icmp .le 7, 3), (14, .iload_n 2, 1), (15, .goto 4, 3), (18, .iload_n 0, 1), (19, .ireturn, 1)]
set_option maxRecDepth 100000 in
theorem zzk_135 : ∀ q ∈ zzc_135, decode cX6_bounded q.1 = .ok q.2 := by decide +kernel
def zzc_136 : List (Nat × Instr × Nat) := [(0, .lload_n 0, 1), (1, .lload_n 2, 1), (2, .lcmp, 1), (3, .ifCond .lt 14, 3), (6, .lload_n 0, 1), (7, .lload 4, 2), (9, .lcmp, 1), (10, .ifCond .gt 7, 3), (13, .iconst 1, 1), (14, .goto 4, 3), (17, .iconst 0, 1), (18, .ireturn, 1)]
set_option maxRecDepth 100000 in
theorem zzk_136 : ∀ q ∈ zzc_136, decode cX7_in q.1 = .ok q.2 := by decide +kernel
def zzc_137 : List (Nat × Instr × Nat) := [(0, .iload_n 0, 1), (1, .iload_n 1, 1), (2, .if_icmp .ge 7, 3), (5, .iload_n 1, 1), (6, .goto 13, 3), (9, .iload_n 0, 1), (10, .iload_n 2, 1), (11, .if_icmp .le 7, 3), (14, .iload_n 2, 1), (15, .goto 4, 3), (18, .iload_n 0, 1), (19, .ireturn, 1)]
set_option maxRecDepth 100000 in
theorem zzk_137 : ∀ q ∈ zzc_137, decode cX7_within q.1 = .ok q.2 := by decide +kernel
def zzc_138_0 : List (Nat × Instr × Nat) := [(0, .aload_n 0, 1), (1, .invokespecial 7, 3), (4, .aload_n 0, 1), (5, .sipush 960, 3), (8, .newarray .int, 2), (10, .putfield 13, 3), (13, .aload_n 0, 1), (14, .bipush 6, 2), (16, .newarray .int, 2), (18, .putfield 17, 3), (21, .aload_n 0, 1), (22, .sipush 160, 3), (25, .newarray .int, 2), (27, .putfield 20, 3), (30, .aload_n 0, 1), (31, .bipush 50, 2), (33, .putfield 23, 3), (36, .aload_n 0, 1), (37, .bipush 8, 2), (39, .newarray .int, 2), (41, .putfield 26, 3), (44, .aload_n 0, 1), (45, .bipush 8, 2), (47, .newarray .int, 2), (49, .putfield 29, 3), (52, .aload_n 0, 1), (53, .bipush 8, 2), (55, .newarray .int, 2), (57, .putfield 32, 3), (60, .aload_n 0, 1), (61, .bipush 8, 2), (63, .newarray .int, 2), (65, .putfield 35, 3), (68, .aload_n 0, 1), (69, .bipush 24, 2), (71, .newarray .int, 2), (73, .putfield 38, 3), (76, .aload_n 0, 1), (77, .bipush 8, 2), (79, .newarray .int, 2), (81, .putfield 41, 3), (84, .aload_n 0, 1), (85, .bipush 8, 2), (87, .newarray .int, 2), (89, .putfield 44, 3), (92, .aload_n 0, 1), (93, .bipush 8, 2), (95, .newarray .int, 2), (97, .putfield 47, 3), (100, .aload_n 0, 1)]
set_option maxRecDepth 100000 in
theorem zzk_138_0 : ∀ q ∈ zzc_138_0, decode cX7_init q.1 = .ok q.2 := by decide +kernel
def zzc_138_1 : List (Nat × Instr × Nat) := [(101, .bipush 8, 2), (103, .newarray .int, 2), (105, .putfield 50, 3), (108, .aload_n 0, 1), (109, .bipush 8, 2), (111, .newarray .int, 2), (113, .putfield 53, 3), (116, .aload_n 0, 1), (117, .bipush 8, 2), (119, .newarray .int, 2), (121, .putfield 56, 3), (124, .aload_n 0, 1), (125, .bipush 8, 2), (127, .newarray .int, 2), (129, .putfield 59, 3), (132, .aload_n 0, 1), (133, .iconst (-1), 1), (134, .putfield 62, 3), (137, .aload_n 0, 1), (138, .iconst 4, 1), (139, .newarray .boolean, 2), (141, .putfield 65, 3), (144, .aload_n 0, 1), (145, .iconst 4, 1), (146, .newarray .int, 2), (148, .putfield 69, 3), (151, .aload_n 0, 1), (152, .iconst 4, 1), (153, .newarray .int, 2), (155, .putfield 72, 3), (158, .aload_n 0, 1), (159, .sipush 160, 3), (162, .newarray .int, 2), (164, .putfield 75, 3), (167, .iconst 0, 1), (168, .istore_n 1, 1), (169, .iload_n 1, 1), (170, .bipush 24, 2), (172, .if_icmp .ge 16, 3), (175, .aload_n 0, 1), (176, .getfield 38, 3), (179, .iload_n 1, 1), (180, .iconst (-1), 1), (181, .iastore, 1), (182, .iinc 1 1, 3), (185, .goto (-16), 3), (188, .aload_n 0, 1), (189, .iconst 0, 1), (190, .bipush 115, 2), (192, .bipush 111, 2)]
set_option maxRecDepth 100000 in
theorem zzk_138_1 : ∀ q ∈ zzc_138_1, decode cX7_init q.1 = .ok q.2 := by decide +kernel
def zzc_138_2 : List (Nat × Instr × Nat) := [(194, .bipush 117, 2), (196, .bipush 110, 2), (198, .bipush 100, 2), (200, .bipush 115, 2), (202, .bipush 32, 2), (204, .bipush 53, 2), (206, .invokevirtual 78, 3), (209, .aload_n 0, 1), (210, .bipush 8, 2), (212, .bipush 32, 2), (214, .bipush 43, 2), (216, .bipush 32, 2), (218, .bipush 114, 2), (220, .bipush 111, 2), (222, .bipush 119, 2), (224, .bipush 32, 2), (226, .bipush 59, 2), (228, .invokevirtual 78, 3), (231, .aload_n 0, 1), (232, .bipush 16, 2), (234, .bipush 32, 2), (236, .bipush 116, 2), (238, .bipush 117, 2), (240, .bipush 114, 2), (242, .bipush 110, 2), (244, .bipush 115, 2), (246, .bipush 32, 2), (248, .bipush 114, 2), (250, .invokevirtual 78, 3), (253, .aload_n 0, 1), (254, .bipush 24, 2), (256, .bipush 111, 2), (258, .bipush 119, 2), (260, .bipush 32, 2), (262, .bipush 59, 2), (264, .bipush 32, 2), (266, .bipush 106, 2), (268, .bipush 111, 2), (270, .bipush 121, 2), (272, .invokevirtual 78, 3), (275, .aload_n 0, 1), (276, .bipush 32, 2), (278, .bipush 115, 2), (280, .bipush 32, 2), (282, .bipush 98, 2), (284, .bipush 101, 2), (286, .bipush 115, 2), (288, .bipush 105, 2), (290, .bipush 100, 2), (292, .bipush 101, 2)]
set_option maxRecDepth 100000 in
theorem zzk_138_2 : ∀ q ∈ zzc_138_2, decode cX7_init q.1 = .ok q.2 := by decide +kernel
def zzc_138_3 : List (Nat × Instr × Nat) := [(294, .invokevirtual 78, 3), (297, .aload_n 0, 1), (298, .bipush 40, 2), (300, .bipush 32, 2), (302, .bipush 59, 2), (304, .bipush 32, 2), (306, .bipush 32, 2), (308, .bipush 32, 2), (310, .bipush 32, 2), (312, .bipush 32, 2), (314, .bipush 32, 2), (316, .invokevirtual 78, 3), (319, .aload_n 0, 1), (320, .getfield 17, 3), (323, .iconst 0, 1), (324, .bipush 48, 2), (326, .iastore, 1), (327, .aload_n 0, 1), (328, .iconst 1, 1), (329, .putfield 82, 3), (332, .return_, 1)]
set_option maxRecDepth 100000 in
theorem zzk_138_3 : ∀ q ∈ zzc_138_3, decode cX7_init q.1 = .ok q.2 := by decide +kernel
def zzc_138 : List (Nat × Instr × Nat) := zzc_138_0 ++ (zzc_138_1 ++ (zzc_138_2 ++ (zzc_138_3)))
theorem zzk_138 : ∀ q ∈ zzc_138, decode cX7_init q.1 = .ok q.2 := List.forall_mem_append.mpr ⟨zzk_138_0, List.forall_mem_append.mpr ⟨zzk_138_1, List.forall_mem_append.mpr ⟨zzk_138_2, zzk_138_3⟩⟩⟩
def zzc_139_0 : List (Nat × Instr × Nat) := [(0, .aload_n 0, 1), (1, .getfield 13, 3), (4, .iload_n 1, 1), (5, .iload_n 2, 1), (6, .iastore, 1), (7, .aload_n 0, 1), (8, .getfield 13, 3), (11, .iload_n 1, 1), (12, .iconst 1, 1), (13, .iadd, 1), (14, .iload_n 3, 1), (15, .iastore, 1), (16, .aload_n 0, 1), (17, .getfield 13, 3), (20, .iload_n 1, 1), (21, .iconst 2, 1), (22, .iadd, 1), (23, .iload 4, 2), (25, .iastore, 1), (26, .aload_n 0, 1), (27, .getfield 13, 3), (30, .iload_n 1, 1), (31, .iconst 3, 1), (32, .iadd, 1), (33, .iload 5, 2), (35, .iastore, 1), (36, .aload_n 0, 1), (37, .getfield 13, 3), (40, .iload_n 1, 1), (41, .iconst 4, 1), (42, .iadd, 1), (43, .iload 6, 2), (45, .iastore, 1), (46, .aload_n 0, 1), (47, .getfield 13, 3), (50, .iload_n 1, 1), (51, .iconst 5, 1), (52, .iadd, 1), (53, .iload 7, 2), (55, .iastore, 1), (56, .aload_n 0, 1), (57, .getfield 13, 3), (60, .iload_n 1, 1), (61, .bipush 6, 2), (63, .iadd, 1), (64, .iload 8, 2), (66, .iastore, 1), (67, .aload_n 0, 1), (68, .getfield 13, 3), (71, .iload_n 1, 1)]
set_option maxRecDepth 100000 in
theorem zzk_139_0 : ∀ q ∈ zzc_139_0, decode cX7_spell q.1 = .ok q.2 := by decide +kernel
def zzc_139_1 : List (Nat × Instr × Nat) := [(72, .bipush 7, 2), (74, .iadd, 1), (75, .iload 9, 2), (77, .iastore, 1), (78, .return_, 1)]
set_option maxRecDepth 100000 in
theorem zzk_139_1 : ∀ q ∈ zzc_139_1, decode cX7_spell q.1 = .ok q.2 := by decide +kernel
def zzc_139 : List (Nat × Instr × Nat) := zzc_139_0 ++ (zzc_139_1)
theorem zzk_139 : ∀ q ∈ zzc_139, decode cX7_spell q.1 = .ok q.2 := List.forall_mem_append.mpr ⟨zzk_139_0, zzk_139_1⟩
def zzc_140 : List (Nat × Instr × Nat) := [(0, .iload_n 1, 1), (1, .i2l, 1), (2, .lconst 0, 1), (3, .aload_n 0, 1), (4, .getfield 85, 3), (7, .iconst 1, 1), (8, .isub, 1), (9, .i2l, 1), (10, .invokestatic 88, 3), (13, .ireturn, 1)]
set_option maxRecDepth 100000 in
theorem zzk_140 : ∀ q ∈ zzc_140, decode cX7_isOne q.1 = .ok q.2 := by decide +kernel
def zzc_141 : List (Nat × Instr × Nat) := [(0, .iload_n 0, 1), (1, .i2l, 1), (2, .lconst 0, 1), (3, .ldc2_w 92, 3), (6, .invokestatic 88, 3), (9, .ireturn, 1)]
set_option maxRecDepth 100000 in
theorem zzk_141 : ∀ q ∈ zzc_141, decode cX7_isSeat q.1 = .ok q.2 := by decide +kernel
def zzc_142 : List (Nat × Instr × Nat) := [(0, .iload_n 1, 1), (1, .iconst 3, 1), (2, .if_icmp .ne 27, 3), (5, .iload_n 3, 1), (6, .iconst (-1), 1), (7, .if_icmp .eq 16, 3), (10, .aload_n 0, 1), (11, .iload_n 3, 1), (12, .invokevirtual 94, 3), (15, .ifCond .eq 12, 3), (18, .iload_n 3, 1), (19, .iload_n 2, 1), (20, .if_icmp .eq 7, 3), (23, .iconst 1, 1), (24, .goto 4, 3), (27, .iconst 0, 1), (28, .ireturn, 1), (29, .iload_n 3, 1), (30, .i2l, 1), (31, .lconst 0, 1), (32, .iload_n 1, 1), (33, .ifCond .ne 9, 3), (36, .ldc2_w 98, 3), (39, .goto 17, 3), (42, .iload_n 1, 1), (43, .iconst 1, 1), (44, .if_icmp .ne 9, 3), (47, .ldc2_w 100, 3), (50, .goto 6, 3), (53, .ldc2_w 102, 3), (56, .invokestatic 88, 3), (59, .ireturn, 1)]
set_option maxRecDepth 100000 in
theorem zzk_142 : ∀ q ∈ zzc_142, decode cX7_isValue q.1 = .ok q.2 := by decide +kernel
def zzc_143 : List (Nat × Instr × Nat) := [(0, .iload_n 1, 1), (1, .i2l, 1), (2, .lconst 0, 1), (3, .ldc2_w 104, 3), (6, .invokestatic 88, 3), (9, .ifCond .eq 26, 3), (12, .iload_n 1, 1), (13, .iconst 1, 1), (14, .if_icmp .le 11, 3), (17, .aload_n 0, 1), (18, .iload_n 2, 1), (19, .invokevirtual 94, 3), (22, .ifCond .eq 13, 3), (25, .aload_n 0, 1), (26, .iload_n 1, 1), (27, .iload_n 2, 1), (28, .iload_n 3, 1), (29, .invokevirtual 106, 3), (32, .ifCond .ne 6, 3), (35, .bipush (-2), 2), (37, .ireturn, 1), (38, .aload_n 0, 1), (39, .iload_n 2, 1), (40, .iload_n 1, 1), (41, .invokevirtual 110, 3), (44, .istore 4, 2), (46, .aload_n 0, 1), (47, .iload_n 1, 1), (48, .iload_n 2, 1), (49, .iload_n 3, 1), (50, .invokevirtual 114, 3), (53, .iload 4, 2), (55, .ireturn, 1)]
set_option maxRecDepth 100000 in
theorem zzk_143 : ∀ q ∈ zzc_143, decode cX7_set q.1 = .ok q.2 := by decide +kernel
def zzc_144 : List (Nat × Instr × Nat) := [(0, .iload_n 1, 1), (1, .ifCond .ne 11, 3), (4, .aload_n 0, 1), (5, .iload_n 3, 1), (6, .putfield 118, 3), (9, .goto 66, 3), (12, .iload_n 1, 1), (13, .iconst 1, 1), (14, .if_icmp .ne 11, 3), (17, .aload_n 0, 1), (18, .iload_n 3, 1), (19, .putfield 23, 3), (22, .goto 53, 3), (25, .iload_n 1, 1), (26, .iconst 2, 1), (27, .if_icmp .ne 13, 3), (30, .aload_n 0, 1), (31, .getfield 29, 3), (34, .iload_n 2, 1), (35, .iload_n 3, 1), (36, .iastore, 1), (37, .goto 38, 3), (40, .iload_n 1, 1), (41, .iconst 3, 1), (42, .if_icmp .ne 13, 3), (45, .aload_n 0, 1), (46, .getfield 32, 3), (49, .iload_n 2, 1), (50, .iload_n 3, 1), (51, .iastore, 1), (52, .goto 23, 3), (55, .iload_n 1, 1), (56, .iconst 4, 1), (57, .if_icmp .ne 13, 3), (60, .aload_n 0, 1), (61, .getfield 26, 3), (64, .iload_n 2, 1), (65, .iload_n 3, 1), (66, .iastore, 1), (67, .goto 8, 3), (70, .aload_n 0, 1), (71, .iload_n 3, 1), (72, .putfield 121, 3), (75, .return_, 1)]
set_option maxRecDepth 100000 in
theorem zzk_144 : ∀ q ∈ zzc_144, decode cX7_lays q.1 = .ok q.2 := by decide +kernel
def zzc_145_0 : List (Nat × Instr × Nat) := [(0, .iload_n 1, 1), (1, .i2l, 1), (2, .lconst 0, 1), (3, .ldc2_w 124, 3), (6, .invokestatic 88, 3), (9, .ifCond .eq 15, 3), (12, .iload_n 2, 1), (13, .i2l, 1), (14, .lconst 0, 1), (15, .ldc2_w 102, 3), (18, .invokestatic 88, 3), (21, .ifCond .ne 6, 3), (24, .bipush (-2), 2), (26, .ireturn, 1), (27, .aload_n 0, 1), (28, .getfield 85, 3), (31, .bipush 8, 2), (33, .if_icmp .ne 6, 3), (36, .bipush (-4), 2), (38, .ireturn, 1), (39, .aload_n 0, 1), (40, .getfield 26, 3), (43, .aload_n 0, 1), (44, .getfield 85, 3), (47, .iload_n 1, 1), (48, .iastore, 1), (49, .aload_n 0, 1), (50, .getfield 29, 3), (53, .aload_n 0, 1), (54, .getfield 85, 3), (57, .iload_n 2, 1), (58, .iastore, 1), (59, .aload_n 0, 1), (60, .getfield 32, 3), (63, .aload_n 0, 1), (64, .getfield 85, 3), (67, .iconst (-1), 1), (68, .iastore, 1), (69, .aload_n 0, 1), (70, .getfield 35, 3), (73, .aload_n 0, 1), (74, .getfield 85, 3), (77, .iconst (-1), 1), (78, .iastore, 1), (79, .aload_n 0, 1), (80, .dup, 1), (81, .getfield 85, 3), (84, .iconst 1, 1), (85, .iadd, 1), (86, .putfield 85, 3)]
set_option maxRecDepth 100000 in
theorem zzk_145_0 : ∀ q ∈ zzc_145_0, decode cX7_passenger q.1 = .ok q.2 := by decide +kernel
def zzc_145_1 : List (Nat × Instr × Nat) := [(89, .aload_n 0, 1), (90, .getfield 85, 3), (93, .iconst 1, 1), (94, .isub, 1), (95, .ireturn, 1)]
set_option maxRecDepth 100000 in
theorem zzk_145_1 : ∀ q ∈ zzc_145_1, decode cX7_passenger q.1 = .ok q.2 := by decide +kernel
def zzc_145 : List (Nat × Instr × Nat) := zzc_145_0 ++ (zzc_145_1)
theorem zzk_145 : ∀ q ∈ zzc_145, decode cX7_passenger q.1 = .ok q.2 := List.forall_mem_append.mpr ⟨zzk_145_0, zzk_145_1⟩
def zzc_146 : List (Nat × Instr × Nat) := [(0, .aload_n 0, 1), (1, .getfield 35, 3), (4, .iload_n 1, 1), (5, .iaload, 1), (6, .iconst (-1), 1), (7, .if_icmp .eq 15, 3), (10, .aload_n 0, 1), (11, .getfield 38, 3), (14, .aload_n 0, 1), (15, .getfield 35, 3), (18, .iload_n 1, 1), (19, .iaload, 1), (20, .iconst (-1), 1), (21, .iastore, 1), (22, .aload_n 0, 1), (23, .getfield 35, 3), (26, .iload_n 1, 1), (27, .iload_n 2, 1), (28, .iastore, 1), (29, .iload_n 2, 1), (30, .iconst (-1), 1), (31, .if_icmp .eq 10, 3), (34, .aload_n 0, 1), (35, .getfield 38, 3), (38, .iload_n 2, 1), (39, .iload_n 1, 1), (40, .iastore, 1), (41, .return_, 1)]
set_option maxRecDepth 100000 in
theorem zzk_146 : ∀ q ∈ zzc_146, decode cX7_seats q.1 = .ok q.2 := by decide +kernel
def zzc_147 : List (Nat × Instr × Nat) := [(0, .aload_n 0, 1), (1, .iload_n 1, 1), (2, .invokevirtual 94, 3), (5, .ifCond .eq 15, 3), (8, .iload_n 2, 1), (9, .iconst (-1), 1), (10, .if_icmp .eq 13, 3), (13, .iload_n 2, 1), (14, .invokestatic 126, 3), (17, .ifCond .ne 6, 3), (20, .bipush (-2), 2), (22, .ireturn, 1), (23, .iload_n 2, 1), (24, .iconst (-1), 1), (25, .if_icmp .eq 26, 3), (28, .aload_n 0, 1), (29, .getfield 38, 3), (32, .iload_n 2, 1), (33, .iaload, 1), (34, .iconst (-1), 1), (35, .if_icmp .eq 16, 3), (38, .aload_n 0, 1), (39, .getfield 38, 3), (42, .iload_n 2, 1), (43, .iaload, 1), (44, .iload_n 1, 1), (45, .if_icmp .eq 6, 3), (48, .bipush (-3), 2), (50, .ireturn, 1), (51, .aload_n 0, 1), (52, .getfield 35, 3), (55, .iload_n 1, 1), (56, .iaload, 1), (57, .istore_n 3, 1), (58, .aload_n 0, 1), (59, .iload_n 1, 1), (60, .iload_n 2, 1), (61, .invokevirtual 129, 3), (64, .iload_n 3, 1), (65, .ireturn, 1)]
set_option maxRecDepth 100000 in
theorem zzk_147 : ∀ q ∈ zzc_147, decode cX7_sit q.1 = .ok q.2 := by decide +kernel
def zzc_148_0 : List (Nat × Instr × Nat) := [(0, .iload_n 2, 1), (1, .i2l, 1), (2, .lconst 0, 1), (3, .ldc2_w 102, 3), (6, .invokestatic 88, 3), (9, .ifCond .eq 16, 3), (12, .iload_n 2, 1), (13, .iconst 1, 1), (14, .if_icmp .le 14, 3), (17, .aload_n 0, 1), (18, .iload_n 1, 1), (19, .invokevirtual 94, 3), (22, .ifCond .ne 6, 3), (25, .bipush (-2), 2), (27, .ireturn, 1), (28, .iload_n 2, 1), (29, .iconst 5, 1), (30, .if_icmp .ge 61, 3), (33, .iload_n 2, 1), (34, .ifCond .ne 10, 3), (37, .aload_n 0, 1), (38, .getfield 118, 3), (41, .goto 49, 3), (44, .iload_n 2, 1), (45, .iconst 1, 1), (46, .if_icmp .ne 10, 3), (49, .aload_n 0, 1), (50, .getfield 23, 3), (53, .goto 37, 3), (56, .iload_n 2, 1), (57, .iconst 2, 1), (58, .if_icmp .ne 12, 3), (61, .aload_n 0, 1), (62, .getfield 29, 3), (65, .iload_n 1, 1), (66, .iaload, 1), (67, .goto 23, 3), (70, .iload_n 2, 1), (71, .iconst 3, 1), (72, .if_icmp .ne 12, 3), (75, .aload_n 0, 1), (76, .getfield 32, 3), (79, .iload_n 1, 1), (80, .iaload, 1), (81, .goto 9, 3), (84, .aload_n 0, 1), (85, .getfield 26, 3), (88, .iload_n 1, 1), (89, .iaload, 1), (90, .ireturn, 1)]
set_option maxRecDepth 100000 in
theorem zzk_148_0 : ∀ q ∈ zzc_148_0, decode cX7_told q.1 = .ok q.2 := by decide +kernel
def zzc_148_1 : List (Nat × Instr × Nat) := [(91, .iload_n 2, 1), (92, .iconst 5, 1), (93, .if_icmp .ne 12, 3), (96, .aload_n 0, 1), (97, .getfield 35, 3), (100, .iload_n 1, 1), (101, .iaload, 1), (102, .goto 62, 3), (105, .iload_n 2, 1), (106, .bipush 6, 2), (108, .if_icmp .ne 11, 3), (111, .aload_n 0, 1), (112, .iload_n 1, 1), (113, .invokevirtual 133, 3), (116, .goto 48, 3), (119, .iload_n 2, 1), (120, .bipush 7, 2), (122, .if_icmp .ne 15, 3), (125, .aload_n 0, 1), (126, .iload_n 1, 1), (127, .aload_n 0, 1), (128, .getfield 118, 3), (131, .invokevirtual 137, 3), (134, .goto 30, 3), (137, .iload_n 2, 1), (138, .bipush 8, 2), (140, .if_icmp .ne 11, 3), (143, .aload_n 0, 1), (144, .iload_n 1, 1), (145, .invokevirtual 140, 3), (148, .goto 16, 3), (151, .aload_n 0, 1), (152, .iload_n 1, 1), (153, .invokevirtual 143, 3), (156, .ifCond .eq 7, 3), (159, .iconst 1, 1), (160, .goto 4, 3), (163, .iconst 0, 1), (164, .ireturn, 1)]
set_option maxRecDepth 100000 in
theorem zzk_148_1 : ∀ q ∈ zzc_148_1, decode cX7_told q.1 = .ok q.2 := by decide +kernel
def zzc_148 : List (Nat × Instr × Nat) := zzc_148_0 ++ (zzc_148_1)
theorem zzk_148 : ∀ q ∈ zzc_148, decode cX7_told q.1 = .ok q.2 := List.forall_mem_append.mpr ⟨zzk_148_0, zzk_148_1⟩
def zzc_149 : List (Nat × Instr × Nat) := [(0, .iload_n 1, 1), (1, .invokestatic 126, 3), (4, .ifCond .eq 12, 3), (7, .aload_n 0, 1), (8, .getfield 38, 3), (11, .iload_n 1, 1), (12, .iaload, 1), (13, .goto 5, 3), (16, .bipush (-2), 2), (18, .ireturn, 1)]
set_option maxRecDepth 100000 in
theorem zzk_149 : ∀ q ∈ zzc_149, decode cX7_who q.1 = .ok q.2 := by decide +kernel
def zzc_150 : List (Nat × Instr × Nat) := [(0, .iload_n 1, 1), (1, .i2l, 1), (2, .lconst 0, 1), (3, .ldc2_w 146, 3), (6, .invokestatic 88, 3), (9, .ifCond .ne 6, 3), (12, .bipush (-2), 2), (14, .ireturn, 1), (15, .aload_n 0, 1), (16, .getfield 148, 3), (19, .sipush 160, 3), (22, .if_icmp .ne 6, 3), (25, .bipush (-4), 2), (27, .ireturn, 1), (28, .aload_n 0, 1), (29, .getfield 20, 3), (32, .aload_n 0, 1), (33, .getfield 148, 3), (36, .iload_n 1, 1), (37, .iastore, 1), (38, .aload_n 0, 1), (39, .dup, 1), (40, .getfield 148, 3), (43, .iconst 1, 1), (44, .iadd, 1), (45, .putfield 148, 3), (48, .aload_n 0, 1), (49, .getfield 148, 3), (52, .ireturn, 1)]
set_option maxRecDepth 100000 in
theorem zzk_150 : ∀ q ∈ zzc_150, decode cX7_feed q.1 = .ok q.2 := by decide +kernel
def zzc_151 : List (Nat × Instr × Nat) := [(0, .iload_n 1, 1), (1, .aload_n 0, 1), (2, .getfield 151, 3), (5, .if_icmp .ge 17, 3), (8, .aload_n 0, 1), (9, .getfield 13, 3), (12, .aload_n 0, 1), (13, .getfield 154, 3), (16, .iload_n 1, 1), (17, .iadd, 1), (18, .iaload, 1), (19, .goto 4, 3), (22, .iconst (-1), 1), (23, .ireturn, 1)]
set_option maxRecDepth 100000 in
theorem zzk_151 : ∀ q ∈ zzc_151, decode cX7_byteAt q.1 = .ok q.2 := by decide +kernel
def zzc_152_0 : List (Nat × Instr × Nat) := [(0, .aload_n 0, 1), (1, .aload_n 0, 1), (2, .getfield 157, 3), (5, .invokevirtual 160, 3), (8, .bipush 32, 2), (10, .if_icmp .eq 16, 3), (13, .aload_n 0, 1), (14, .aload_n 0, 1), (15, .getfield 157, 3), (18, .invokevirtual 160, 3), (21, .bipush 10, 2), (23, .if_icmp .ne 16, 3), (26, .aload_n 0, 1), (27, .dup, 1), (28, .getfield 157, 3), (31, .iconst 1, 1), (32, .iadd, 1), (33, .putfield 157, 3), (36, .goto (-36), 3), (39, .aload_n 0, 1), (40, .aload_n 0, 1), (41, .getfield 157, 3), (44, .putfield 163, 3), (47, .aload_n 0, 1), (48, .aload_n 0, 1), (49, .getfield 157, 3), (52, .invokevirtual 160, 3), (55, .istore_n 1, 1), (56, .aload_n 0, 1), (57, .iconst 4, 1), (58, .putfield 166, 3), (61, .iload_n 1, 1), (62, .ifCond .ge 19, 3), (65, .aload_n 0, 1), (66, .iconst 0, 1), (67, .putfield 166, 3), (70, .aload_n 0, 1), (71, .aload_n 0, 1), (72, .getfield 151, 3), (75, .putfield 163, 3), (78, .goto 243, 3), (81, .iload_n 1, 1), (82, .i2l, 1), (83, .ldc2_w 169, 3), (86, .ldc2_w 171, 3), (89, .invokestatic 88, 3), (92, .ifCond .eq 42, 3), (95, .aload_n 0, 1), (96, .iconst 1, 1), (97, .putfield 166, 3)]
set_option maxRecDepth 100000 in
theorem zzk_152_0 : ∀ q ∈ zzc_152_0, decode cX7_next q.1 = .ok q.2 := by decide +kernel
def zzc_152_1 : List (Nat × Instr × Nat) := [(100, .aload_n 0, 1), (101, .aload_n 0, 1), (102, .getfield 157, 3), (105, .invokevirtual 160, 3), (108, .i2l, 1), (109, .ldc2_w 169, 3), (112, .ldc2_w 171, 3), (115, .invokestatic 88, 3), (118, .ifCond .eq 203, 3), (121, .aload_n 0, 1), (122, .dup, 1), (123, .getfield 157, 3), (126, .iconst 1, 1), (127, .iadd, 1), (128, .putfield 157, 3), (131, .goto (-31), 3), (134, .iload_n 1, 1), (135, .i2l, 1), (136, .ldc2_w 173, 3), (139, .ldc2_w 175, 3), (142, .invokestatic 88, 3), (145, .ifCond .eq 107, 3), (148, .aload_n 0, 1), (149, .iconst 2, 1), (150, .putfield 166, 3), (153, .aload_n 0, 1), (154, .lconst 0, 1), (155, .putfield 177, 3), (158, .iconst 0, 1), (159, .istore_n 2, 1), (160, .aload_n 0, 1), (161, .aload_n 0, 1), (162, .getfield 157, 3), (165, .invokevirtual 160, 3), (168, .i2l, 1), (169, .ldc2_w 173, 3), (172, .ldc2_w 175, 3), (175, .invokestatic 88, 3), (178, .ifCond .eq 57, 3), (181, .aload_n 0, 1), (182, .iload_n 2, 1), (183, .iconst 4, 1), (184, .if_icmp .ge 28, 3), (187, .ldc2_w 181, 3), (190, .aload_n 0, 1), (191, .getfield 177, 3), (194, .lmul, 1), (195, .aload_n 0, 1), (196, .aload_n 0, 1), (197, .getfield 157, 3)]
set_option maxRecDepth 100000 in
theorem zzk_152_1 : ∀ q ∈ zzc_152_1, decode cX7_next q.1 = .ok q.2 := by decide +kernel
def zzc_152_2 : List (Nat × Instr × Nat) := [(200, .invokevirtual 160, 3), (203, .i2l, 1), (204, .ladd, 1), (205, .ldc2_w 173, 3), (208, .lsub, 1), (209, .goto 7, 3), (212, .aload_n 0, 1), (213, .getfield 177, 3), (216, .putfield 177, 3), (219, .iinc 2 1, 3), (222, .aload_n 0, 1), (223, .dup, 1), (224, .getfield 157, 3), (227, .iconst 1, 1), (228, .iadd, 1), (229, .putfield 157, 3), (232, .goto (-72), 3), (235, .aload_n 0, 1), (236, .iload_n 2, 1), (237, .iconst 4, 1), (238, .if_icmp .le 7, 3), (241, .iconst 4, 1), (242, .goto 4, 3), (245, .iconst 2, 1), (246, .putfield 166, 3), (249, .goto 72, 3), (252, .iload_n 1, 1), (253, .bipush 40, 2), (255, .if_icmp .eq 45, 3), (258, .iload_n 1, 1), (259, .bipush 41, 2), (261, .if_icmp .eq 39, 3), (264, .iload_n 1, 1), (265, .bipush 59, 2), (267, .if_icmp .eq 33, 3), (270, .iload_n 1, 1), (271, .bipush 43, 2), (273, .if_icmp .eq 27, 3), (276, .iload_n 1, 1), (277, .bipush 45, 2), (279, .if_icmp .eq 21, 3), (282, .iload_n 1, 1), (283, .bipush 42, 2), (285, .if_icmp .eq 15, 3), (288, .iload_n 1, 1), (289, .bipush 60, 2), (291, .if_icmp .eq 9, 3), (294, .iload_n 1, 1), (295, .bipush 61, 2), (297, .if_icmp .ne 24, 3)]
set_option maxRecDepth 100000 in
theorem zzk_152_2 : ∀ q ∈ zzc_152_2, decode cX7_next q.1 = .ok q.2 := by decide +kernel
def zzc_152_3 : List (Nat × Instr × Nat) := [(300, .aload_n 0, 1), (301, .iconst 3, 1), (302, .putfield 166, 3), (305, .aload_n 0, 1), (306, .iload_n 1, 1), (307, .i2l, 1), (308, .putfield 177, 3), (311, .aload_n 0, 1), (312, .dup, 1), (313, .getfield 157, 3), (316, .iconst 1, 1), (317, .iadd, 1), (318, .putfield 157, 3), (321, .return_, 1)]
set_option maxRecDepth 100000 in
theorem zzk_152_3 : ∀ q ∈ zzc_152_3, decode cX7_next q.1 = .ok q.2 := by decide +kernel
def zzc_152 : List (Nat × Instr × Nat) := zzc_152_0 ++ (zzc_152_1 ++ (zzc_152_2 ++ (zzc_152_3)))
theorem zzk_152 : ∀ q ∈ zzc_152, decode cX7_next q.1 = .ok q.2 := List.forall_mem_append.mpr ⟨zzk_152_0, List.forall_mem_append.mpr ⟨zzk_152_1, List.forall_mem_append.mpr ⟨zzk_152_2, zzk_152_3⟩⟩⟩
end
section
/-! the code of each method, read off the class files (written by wip/whole/gen1.py) -/
def zzc_153 : List (Nat × Instr × Nat) := [(0, .aload_n 0, 1), (1, .getfield 183, 3), (4, .ifCond .ne 16, 3), (7, .aload_n 0, 1), (8, .iconst 1, 1), (9, .putfield 183, 3), (12, .aload_n 0, 1), (13, .aload_n 0, 1), (14, .getfield 163, 3), (17, .putfield 187, 3), (20, .return_, 1)]
set_option maxRecDepth 100000 in
theorem zzk_153 : ∀ q ∈ zzc_153, decode cX7_fail q.1 = .ok q.2 := by decide +kernel
def zzc_154 : List (Nat × Instr × Nat) := [(0, .aload_n 0, 1), (1, .getfield 163, 3), (4, .iload_n 1, 1), (5, .iadd, 1), (6, .aload_n 0, 1), (7, .getfield 157, 3), (10, .if_icmp .ge 25, 3), (13, .aload_n 0, 1), (14, .aload_n 0, 1), (15, .getfield 163, 3), (18, .iload_n 1, 1), (19, .iadd, 1), (20, .invokevirtual 160, 3), (23, .iload_n 2, 1), (24, .if_icmp .ne 7, 3), (27, .iconst 1, 1), (28, .goto 16, 3), (31, .iconst 0, 1), (32, .goto 12, 3), (35, .iload_n 2, 1), (36, .ifCond .ne 7, 3), (39, .iconst 1, 1), (40, .goto 4, 3), (43, .iconst 0, 1), (44, .ireturn, 1)]
set_option maxRecDepth 100000 in
theorem zzk_154 : ∀ q ∈ zzc_154, decode cX7_isLetter q.1 = .ok q.2 := by decide +kernel
def zzc_155_0 : List (Nat × Instr × Nat) := [(0, .aload_n 0, 1), (1, .getfield 183, 3), (4, .ifCond .ne 108, 3), (7, .aload_n 0, 1), (8, .getfield 166, 3), (11, .iconst 1, 1), (12, .if_icmp .ne 100, 3), (15, .aload_n 0, 1), (16, .getfield 157, 3), (19, .aload_n 0, 1), (20, .getfield 163, 3), (23, .bipush 8, 2), (25, .iadd, 1), (26, .if_icmp .gt 86, 3), (29, .aload_n 0, 1), (30, .iconst 0, 1), (31, .iload_n 1, 1), (32, .invokevirtual 190, 3), (35, .ifCond .eq 77, 3), (38, .aload_n 0, 1), (39, .iconst 1, 1), (40, .iload_n 2, 1), (41, .invokevirtual 190, 3), (44, .ifCond .eq 68, 3), (47, .aload_n 0, 1), (48, .iconst 2, 1), (49, .iload_n 3, 1), (50, .invokevirtual 190, 3), (53, .ifCond .eq 59, 3), (56, .aload_n 0, 1), (57, .iconst 3, 1), (58, .iload 4, 2), (60, .invokevirtual 190, 3), (63, .ifCond .eq 49, 3), (66, .aload_n 0, 1), (67, .iconst 4, 1), (68, .iload 5, 2), (70, .invokevirtual 190, 3), (73, .ifCond .eq 39, 3), (76, .aload_n 0, 1), (77, .iconst 5, 1), (78, .iload 6, 2), (80, .invokevirtual 190, 3), (83, .ifCond .eq 29, 3), (86, .aload_n 0, 1), (87, .bipush 6, 2), (89, .iload 7, 2), (91, .invokevirtual 190, 3), (94, .ifCond .eq 18, 3), (97, .aload_n 0, 1)]
set_option maxRecDepth 100000 in
theorem zzk_155_0 : ∀ q ∈ zzc_155_0, decode cX7_isWord q.1 = .ok q.2 := by decide +kernel
def zzc_155_1 : List (Nat × Instr × Nat) := [(98, .bipush 7, 2), (100, .iload 8, 2), (102, .invokevirtual 190, 3), (105, .ifCond .eq 7, 3), (108, .iconst 1, 1), (109, .goto 4, 3), (112, .iconst 0, 1), (113, .ireturn, 1)]
set_option maxRecDepth 100000 in
theorem zzk_155_1 : ∀ q ∈ zzc_155_1, decode cX7_isWord q.1 = .ok q.2 := by decide +kernel
def zzc_155 : List (Nat × Instr × Nat) := zzc_155_0 ++ (zzc_155_1)
theorem zzk_155 : ∀ q ∈ zzc_155, decode cX7_isWord q.1 = .ok q.2 := List.forall_mem_append.mpr ⟨zzk_155_0, zzk_155_1⟩
def zzc_156 : List (Nat × Instr × Nat) := [(0, .aload_n 0, 1), (1, .getfield 183, 3), (4, .ifCond .ne 25, 3), (7, .aload_n 0, 1), (8, .getfield 166, 3), (11, .iconst 3, 1), (12, .if_icmp .ne 17, 3), (15, .aload_n 0, 1), (16, .getfield 177, 3), (19, .iload_n 1, 1), (20, .i2l, 1), (21, .lcmp, 1), (22, .ifCond .ne 7, 3), (25, .iconst 1, 1), (26, .goto 4, 3), (29, .iconst 0, 1), (30, .ireturn, 1)]
set_option maxRecDepth 100000 in
theorem zzk_156 : ∀ q ∈ zzc_156, decode cX7_isSign q.1 = .ok q.2 := by decide +kernel
def zzc_157 : List (Nat × Instr × Nat) := [(0, .aload_n 0, 1), (1, .getfield 194, 3), (4, .iconst 5, 1), (5, .if_icmp .ne 9, 3), (8, .aload_n 0, 1), (9, .invokevirtual 197, 3), (12, .iconst 0, 1), (13, .ireturn, 1), (14, .aload_n 0, 1), (15, .dup, 1), (16, .getfield 194, 3), (19, .iconst 1, 1), (20, .iadd, 1), (21, .putfield 194, 3), (24, .aload_n 0, 1), (25, .invokevirtual 200, 3), (28, .iconst 1, 1), (29, .ireturn, 1)]
set_option maxRecDepth 100000 in
theorem zzk_157 : ∀ q ∈ zzc_157, decode cX7_opens q.1 = .ok q.2 := by decide +kernel
def zzc_158_0 : List (Nat × Instr × Nat) := [(0, .aload_n 0, 1), (1, .bipush 114, 2), (3, .bipush 111, 2), (5, .bipush 119, 2), (7, .iconst 0, 1), (8, .iconst 0, 1), (9, .iconst 0, 1), (10, .iconst 0, 1), (11, .iconst 0, 1), (12, .invokevirtual 203, 3), (15, .ifCond .eq 8, 3), (18, .aload_n 0, 1), (19, .getfield 207, 3), (22, .ireturn, 1), (23, .aload_n 0, 1), (24, .bipush 99, 2), (26, .bipush 111, 2), (28, .bipush 108, 2), (30, .bipush 117, 2), (32, .bipush 109, 2), (34, .bipush 110, 2), (36, .iconst 0, 1), (37, .iconst 0, 1), (38, .invokevirtual 203, 3), (41, .ifCond .eq 8, 3), (44, .aload_n 0, 1), (45, .getfield 210, 3), (48, .ireturn, 1), (49, .aload_n 0, 1), (50, .bipush 109, 2), (52, .bipush 105, 2), (54, .bipush 108, 2), (56, .bipush 101, 2), (58, .iconst 0, 1), (59, .iconst 0, 1), (60, .iconst 0, 1), (61, .iconst 0, 1), (62, .invokevirtual 203, 3), (65, .ifCond .eq 8, 3), (68, .aload_n 0, 1), (69, .getfield 213, 3), (72, .ireturn, 1), (73, .aload_n 0, 1), (74, .bipush 110, 2), (76, .bipush 117, 2), (78, .bipush 109, 2), (80, .bipush 98, 2), (82, .bipush 101, 2), (84, .bipush 114, 2), (86, .iconst 0, 1)]
set_option maxRecDepth 100000 in
theorem zzk_158_0 : ∀ q ∈ zzc_158_0, decode cX7_name q.1 = .ok q.2 := by decide +kernel
def zzc_158_1 : List (Nat × Instr × Nat) := [(87, .iconst 0, 1), (88, .invokevirtual 203, 3), (91, .ifCond .eq 8, 3), (94, .aload_n 0, 1), (95, .getfield 216, 3), (98, .ireturn, 1), (99, .aload_n 0, 1), (100, .bipush 98, 2), (102, .bipush 101, 2), (104, .bipush 115, 2), (106, .bipush 105, 2), (108, .bipush 100, 2), (110, .bipush 101, 2), (112, .iconst 0, 1), (113, .iconst 0, 1), (114, .invokevirtual 203, 3), (117, .ifCond .eq 8, 3), (120, .aload_n 0, 1), (121, .getfield 219, 3), (124, .ireturn, 1), (125, .aload_n 0, 1), (126, .bipush 102, 2), (128, .bipush 114, 2), (130, .bipush 105, 2), (132, .bipush 101, 2), (134, .bipush 110, 2), (136, .bipush 100, 2), (138, .iconst 0, 1), (139, .iconst 0, 1), (140, .invokevirtual 203, 3), (143, .ifCond .eq 8, 3), (146, .aload_n 0, 1), (147, .getfield 222, 3), (150, .ireturn, 1), (151, .aload_n 0, 1), (152, .invokevirtual 197, 3), (155, .iconst 0, 1), (156, .ireturn, 1)]
set_option maxRecDepth 100000 in
theorem zzk_158_1 : ∀ q ∈ zzc_158_1, decode cX7_name q.1 = .ok q.2 := by decide +kernel
def zzc_158 : List (Nat × Instr × Nat) := zzc_158_0 ++ (zzc_158_1)
theorem zzk_158 : ∀ q ∈ zzc_158, decode cX7_name q.1 = .ok q.2 := List.forall_mem_append.mpr ⟨zzk_158_0, zzk_158_1⟩
def zzc_159_0 : List (Nat × Instr × Nat) := [(0, .iconst 0, 1), (1, .istore_n 1, 1), (2, .aload_n 0, 1), (3, .bipush 45, 2), (5, .invokevirtual 225, 3), (8, .ifCond .eq 29, 3), (11, .aload_n 0, 1), (12, .invokevirtual 228, 3), (15, .ifCond .eq 146, 3), (18, .aload_n 0, 1), (19, .invokevirtual 232, 3), (22, .ineg, 1), (23, .istore_n 1, 1), (24, .aload_n 0, 1), (25, .dup, 1), (26, .getfield 194, 3), (29, .iconst 1, 1), (30, .isub, 1), (31, .putfield 194, 3), (34, .goto 127, 3), (37, .aload_n 0, 1), (38, .bipush 40, 2), (40, .invokevirtual 225, 3), (43, .ifCond .eq 52, 3), (46, .aload_n 0, 1), (47, .invokevirtual 228, 3), (50, .ifCond .eq 111, 3), (53, .aload_n 0, 1), (54, .invokevirtual 236, 3), (57, .istore_n 1, 1), (58, .aload_n 0, 1), (59, .bipush 41, 2), (61, .invokevirtual 225, 3), (64, .ifCond .ne 7, 3), (67, .aload_n 0, 1), (68, .invokevirtual 197, 3), (71, .aload_n 0, 1), (72, .dup, 1), (73, .getfield 194, 3), (76, .iconst 1, 1), (77, .isub, 1), (78, .putfield 194, 3), (81, .aload_n 0, 1), (82, .getfield 183, 3), (85, .ifCond .ne 76, 3), (88, .aload_n 0, 1), (89, .invokevirtual 200, 3), (92, .goto 69, 3), (95, .aload_n 0, 1), (96, .getfield 183, 3)]
set_option maxRecDepth 100000 in
theorem zzk_159_0 : ∀ q ∈ zzc_159_0, decode cX7_atom q.1 = .ok q.2 := by decide +kernel
def zzc_159_1 : List (Nat × Instr × Nat) := [(99, .ifCond .ne 24, 3), (102, .aload_n 0, 1), (103, .getfield 166, 3), (106, .iconst 2, 1), (107, .if_icmp .ne 16, 3), (110, .aload_n 0, 1), (111, .getfield 177, 3), (114, .l2i, 1), (115, .istore_n 1, 1), (116, .aload_n 0, 1), (117, .invokevirtual 200, 3), (120, .goto 41, 3), (123, .aload_n 0, 1), (124, .getfield 183, 3), (127, .ifCond .ne 30, 3), (130, .aload_n 0, 1), (131, .getfield 166, 3), (134, .iconst 1, 1), (135, .if_icmp .ne 22, 3), (138, .aload_n 0, 1), (139, .invokevirtual 239, 3), (142, .istore_n 1, 1), (143, .aload_n 0, 1), (144, .getfield 183, 3), (147, .ifCond .ne 14, 3), (150, .aload_n 0, 1), (151, .invokevirtual 200, 3), (154, .goto 7, 3), (157, .aload_n 0, 1), (158, .invokevirtual 197, 3), (161, .iload_n 1, 1), (162, .ireturn, 1)]
set_option maxRecDepth 100000 in
theorem zzk_159_1 : ∀ q ∈ zzc_159_1, decode cX7_atom q.1 = .ok q.2 := by decide +kernel
def zzc_159 : List (Nat × Instr × Nat) := zzc_159_0 ++ (zzc_159_1)
theorem zzk_159 : ∀ q ∈ zzc_159, decode cX7_atom q.1 = .ok q.2 := List.forall_mem_append.mpr ⟨zzk_159_0, zzk_159_1⟩
def zzc_160 : List (Nat × Instr × Nat) := [(0, .aload_n 0, 1), (1, .invokevirtual 232, 3), (4, .istore_n 1, 1), (5, .aload_n 0, 1), (6, .bipush 42, 2), (8, .invokevirtual 225, 3), (11, .ifCond .eq 17, 3), (14, .aload_n 0, 1), (15, .invokevirtual 200, 3), (18, .iload_n 1, 1), (19, .aload_n 0, 1), (20, .invokevirtual 232, 3), (23, .imul, 1), (24, .istore_n 1, 1), (25, .goto (-20), 3), (28, .iload_n 1, 1), (29, .ireturn, 1)]
set_option maxRecDepth 100000 in
theorem zzk_160 : ∀ q ∈ zzc_160, decode cX7_term q.1 = .ok q.2 := by decide +kernel
def zzc_161 : List (Nat × Instr × Nat) := [(0, .aload_n 0, 1), (1, .invokevirtual 242, 3), (4, .istore_n 1, 1), (5, .aload_n 0, 1), (6, .bipush 43, 2), (8, .invokevirtual 225, 3), (11, .ifCond .ne 12, 3), (14, .aload_n 0, 1), (15, .bipush 45, 2), (17, .invokevirtual 225, 3), (20, .ifCond .eq 46, 3), (23, .aload_n 0, 1), (24, .getfield 177, 3), (27, .ldc2_w 245, 3), (30, .lcmp, 1), (31, .ifCond .ne 7, 3), (34, .iconst 1, 1), (35, .goto 4, 3), (38, .iconst 0, 1), (39, .istore_n 2, 1), (40, .aload_n 0, 1), (41, .invokevirtual 200, 3), (44, .aload_n 0, 1), (45, .invokevirtual 242, 3), (48, .istore_n 3, 1), (49, .iload_n 2, 1), (50, .ifCond .eq 9, 3), (53, .iload_n 1, 1), (54, .iload_n 3, 1), (55, .iadd, 1), (56, .goto 6, 3), (59, .iload_n 1, 1), (60, .iload_n 3, 1), (61, .isub, 1), (62, .istore_n 1, 1), (63, .goto (-58), 3), (66, .iload_n 1, 1), (67, .ireturn, 1)]
set_option maxRecDepth 100000 in
theorem zzk_161 : ∀ q ∈ zzc_161, decode cX7_added q.1 = .ok q.2 := by decide +kernel
def zzc_162_0 : List (Nat × Instr × Nat) := [(0, .aload_n 0, 1), (1, .bipush 110, 2), (3, .bipush 111, 2), (5, .bipush 116, 2), (7, .iconst 0, 1), (8, .iconst 0, 1), (9, .iconst 0, 1), (10, .iconst 0, 1), (11, .iconst 0, 1), (12, .invokevirtual 203, 3), (15, .ifCond .eq 37, 3), (18, .aload_n 0, 1), (19, .invokevirtual 228, 3), (22, .ifCond .ne 5, 3), (25, .iconst 0, 1), (26, .ireturn, 1), (27, .aload_n 0, 1), (28, .invokevirtual 247, 3), (31, .istore_n 1, 1), (32, .aload_n 0, 1), (33, .dup, 1), (34, .getfield 194, 3), (37, .iconst 1, 1), (38, .isub, 1), (39, .putfield 194, 3), (42, .iload_n 1, 1), (43, .ifCond .ne 7, 3), (46, .iconst 1, 1), (47, .goto 4, 3), (50, .iconst 0, 1), (51, .ireturn, 1), (52, .aload_n 0, 1), (53, .invokevirtual 250, 3), (56, .istore_n 1, 1), (57, .aload_n 0, 1), (58, .bipush 60, 2), (60, .invokevirtual 225, 3), (63, .ifCond .ne 14, 3), (66, .aload_n 0, 1), (67, .bipush 61, 2), (69, .invokevirtual 225, 3), (72, .ifCond .ne 5, 3), (75, .iload_n 1, 1), (76, .ireturn, 1), (77, .aload_n 0, 1), (78, .getfield 177, 3), (81, .ldc2_w 253, 3), (84, .lcmp, 1), (85, .ifCond .ne 7, 3), (88, .iconst 1, 1)]
set_option maxRecDepth 100000 in
theorem zzk_162_0 : ∀ q ∈ zzc_162_0, decode cX7_not q.1 = .ok q.2 := by decide +kernel
def zzc_162_1 : List (Nat × Instr × Nat) := [(89, .goto 4, 3), (92, .iconst 0, 1), (93, .istore_n 2, 1), (94, .aload_n 0, 1), (95, .invokevirtual 200, 3), (98, .aload_n 0, 1), (99, .invokevirtual 250, 3), (102, .istore_n 3, 1), (103, .iload_n 2, 1), (104, .ifCond .eq 11, 3), (107, .iload_n 1, 1), (108, .iload_n 3, 1), (109, .if_icmp .ge 15, 3), (112, .goto 8, 3), (115, .iload_n 1, 1), (116, .iload_n 3, 1), (117, .if_icmp .ne 7, 3), (120, .iconst 1, 1), (121, .goto 4, 3), (124, .iconst 0, 1), (125, .ireturn, 1)]
set_option maxRecDepth 100000 in
theorem zzk_162_1 : ∀ q ∈ zzc_162_1, decode cX7_not q.1 = .ok q.2 := by decide +kernel
def zzc_162 : List (Nat × Instr × Nat) := zzc_162_0 ++ (zzc_162_1)
theorem zzk_162 : ∀ q ∈ zzc_162, decode cX7_not q.1 = .ok q.2 := List.forall_mem_append.mpr ⟨zzk_162_0, zzk_162_1⟩
def zzc_163 : List (Nat × Instr × Nat) := [(0, .aload_n 0, 1), (1, .invokevirtual 247, 3), (4, .istore_n 1, 1), (5, .aload_n 0, 1), (6, .bipush 97, 2), (8, .bipush 110, 2), (10, .bipush 100, 2), (12, .iconst 0, 1), (13, .iconst 0, 1), (14, .iconst 0, 1), (15, .iconst 0, 1), (16, .iconst 0, 1), (17, .invokevirtual 203, 3), (20, .ifCond .eq 29, 3), (23, .aload_n 0, 1), (24, .invokevirtual 200, 3), (27, .aload_n 0, 1), (28, .invokevirtual 247, 3), (31, .istore_n 2, 1), (32, .iload_n 1, 1), (33, .ifCond .eq 11, 3), (36, .iload_n 2, 1), (37, .ifCond .eq 7, 3), (40, .iconst 1, 1), (41, .goto 4, 3), (44, .iconst 0, 1), (45, .istore_n 1, 1), (46, .goto (-41), 3), (49, .iload_n 1, 1), (50, .ireturn, 1)]
set_option maxRecDepth 100000 in
theorem zzk_163 : ∀ q ∈ zzc_163, decode cX7_both q.1 = .ok q.2 := by decide +kernel
def zzc_164 : List (Nat × Instr × Nat) := [(0, .aload_n 0, 1), (1, .invokevirtual 255, 3), (4, .istore_n 1, 1), (5, .aload_n 0, 1), (6, .bipush 111, 2), (8, .bipush 114, 2), (10, .iconst 0, 1), (11, .iconst 0, 1), (12, .iconst 0, 1), (13, .iconst 0, 1), (14, .iconst 0, 1), (15, .iconst 0, 1), (16, .invokevirtual 203, 3), (19, .ifCond .eq 29, 3), (22, .aload_n 0, 1), (23, .invokevirtual 200, 3), (26, .aload_n 0, 1), (27, .invokevirtual 255, 3), (30, .istore_n 2, 1), (31, .iload_n 1, 1), (32, .ifCond .ne 7, 3), (35, .iload_n 2, 1), (36, .ifCond .eq 7, 3), (39, .iconst 1, 1), (40, .goto 4, 3), (43, .iconst 0, 1), (44, .istore_n 1, 1), (45, .goto (-40), 3), (48, .iload_n 1, 1), (49, .ireturn, 1)]
set_option maxRecDepth 100000 in
theorem zzk_164 : ∀ q ∈ zzc_164, decode cX7_either q.1 = .ok q.2 := by decide +kernel
def zzc_165 : List (Nat × Instr × Nat) := [(0, .iload_n 1, 1), (1, .ifCond .ne 7, 3), (4, .aload_n 0, 1), (5, .invokevirtual 197, 3), (8, .aload_n 0, 1), (9, .getfield 183, 3), (12, .ifCond .ne 7, 3), (15, .aload_n 0, 1), (16, .invokevirtual 200, 3), (19, .aload_n 0, 1), (20, .getfield 183, 3), (23, .ifCond .eq 7, 3), (26, .iconst 0, 1), (27, .goto 7, 3), (30, .aload_n 0, 1), (31, .invokevirtual 236, 3), (34, .istore_n 2, 1), (35, .aload_n 0, 1), (36, .bipush 59, 2), (38, .invokevirtual 225, 3), (41, .ifCond .ne 7, 3), (44, .aload_n 0, 1), (45, .invokevirtual 197, 3), (48, .aload_n 0, 1), (49, .getfield 183, 3), (52, .ifCond .ne 7, 3), (55, .aload_n 0, 1), (56, .invokevirtual 200, 3), (59, .iload_n 2, 1), (60, .ireturn, 1)]
set_option maxRecDepth 100000 in
theorem zzk_165 : ∀ q ∈ zzc_165, decode cX7_part q.1 = .ok q.2 := by decide +kernel
def zzc_166_0 : List (Nat × Instr × Nat) := [(0, .aload_n 0, 1), (1, .sipush 160, 3), (4, .iload_n 1, 1), (5, .imul, 1), (6, .putfield 154, 3), (9, .aload_n 0, 1), (10, .aload_n 0, 1), (11, .getfield 17, 3), (14, .iload_n 1, 1), (15, .iaload, 1), (16, .putfield 151, 3), (19, .aload_n 0, 1), (20, .iconst 0, 1), (21, .putfield 157, 3), (24, .aload_n 0, 1), (25, .iconst 0, 1), (26, .putfield 194, 3), (29, .aload_n 0, 1), (30, .iconst 0, 1), (31, .putfield 183, 3), (34, .aload_n 0, 1), (35, .invokevirtual 200, 3), (38, .aload_n 0, 1), (39, .aload_n 0, 1), (40, .bipush 115, 2), (42, .bipush 111, 2), (44, .bipush 117, 2), (46, .bipush 110, 2), (48, .bipush 100, 2), (50, .bipush 115, 2), (52, .iconst 0, 1), (53, .iconst 0, 1), (54, .invokevirtual 203, 3), (57, .invokevirtual 258, 3), (60, .istore_n 3, 1), (61, .aload_n 0, 1), (62, .getfield 183, 3), (65, .ifCond .eq 7, 3), (68, .iconst 0, 1), (69, .goto 24, 3), (72, .aload_n 0, 1), (73, .aload_n 0, 1), (74, .bipush 116, 2), (76, .bipush 117, 2), (78, .bipush 114, 2), (80, .bipush 110, 2), (82, .bipush 115, 2), (84, .iconst 0, 1), (85, .iconst 0, 1), (86, .iconst 0, 1)]
set_option maxRecDepth 100000 in
theorem zzk_166_0 : ∀ q ∈ zzc_166_0, decode cX7_read q.1 = .ok q.2 := by decide +kernel
def zzc_166_1 : List (Nat × Instr × Nat) := [(87, .invokevirtual 203, 3), (90, .invokevirtual 258, 3), (93, .istore 4, 2), (95, .aload_n 0, 1), (96, .getfield 183, 3), (99, .ifCond .eq 7, 3), (102, .iconst 0, 1), (103, .goto 23, 3), (106, .aload_n 0, 1), (107, .aload_n 0, 1), (108, .bipush 106, 2), (110, .bipush 111, 2), (112, .bipush 121, 2), (114, .bipush 115, 2), (116, .iconst 0, 1), (117, .iconst 0, 1), (118, .iconst 0, 1), (119, .iconst 0, 1), (120, .invokevirtual 203, 3), (123, .invokevirtual 258, 3), (126, .istore 5, 2), (128, .aload_n 0, 1), (129, .getfield 183, 3), (132, .ifCond .ne 14, 3), (135, .aload_n 0, 1), (136, .getfield 166, 3), (139, .ifCond .eq 7, 3), (142, .aload_n 0, 1), (143, .invokevirtual 197, 3), (146, .iload_n 2, 1), (147, .ifCond .ne 7, 3), (150, .iload_n 3, 1), (151, .goto 15, 3), (154, .iload_n 2, 1), (155, .iconst 1, 1), (156, .if_icmp .ne 8, 3), (159, .iload 4, 2), (161, .goto 5, 3), (164, .iload 5, 2), (166, .ireturn, 1)]
set_option maxRecDepth 100000 in
theorem zzk_166_1 : ∀ q ∈ zzc_166_1, decode cX7_read q.1 = .ok q.2 := by decide +kernel
def zzc_166 : List (Nat × Instr × Nat) := zzc_166_0 ++ (zzc_166_1)
theorem zzk_166 : ∀ q ∈ zzc_166, decode cX7_read q.1 = .ok q.2 := List.forall_mem_append.mpr ⟨zzk_166_0, zzk_166_1⟩
def zzc_167_0 : List (Nat × Instr × Nat) := [(0, .aload_n 0, 1), (1, .getfield 82, 3), (4, .bipush 6, 2), (6, .if_icmp .ne 6, 3), (9, .bipush (-4), 2), (11, .ireturn, 1), (12, .iconst 0, 1), (13, .istore_n 1, 1), (14, .iload_n 1, 1), (15, .aload_n 0, 1), (16, .getfield 148, 3), (19, .if_icmp .ge 30, 3), (22, .aload_n 0, 1), (23, .getfield 13, 3), (26, .sipush 160, 3), (29, .aload_n 0, 1), (30, .getfield 82, 3), (33, .imul, 1), (34, .iload_n 1, 1), (35, .iadd, 1), (36, .aload_n 0, 1), (37, .getfield 20, 3), (40, .iload_n 1, 1), (41, .iaload, 1), (42, .iastore, 1), (43, .iinc 1 1, 3), (46, .goto (-32), 3), (49, .aload_n 0, 1), (50, .getfield 17, 3), (53, .aload_n 0, 1), (54, .getfield 82, 3), (57, .aload_n 0, 1), (58, .getfield 148, 3), (61, .iastore, 1), (62, .aload_n 0, 1), (63, .iconst 0, 1), (64, .putfield 148, 3), (67, .aload_n 0, 1), (68, .aload_n 0, 1), (69, .getfield 82, 3), (72, .iconst 0, 1), (73, .invokevirtual 262, 3), (76, .istore_n 1, 1), (77, .aload_n 0, 1), (78, .getfield 183, 3), (81, .ifCond .eq 11, 3), (84, .bipush (-100), 2), (86, .aload_n 0, 1), (87, .getfield 187, 3), (90, .isub, 1)]
set_option maxRecDepth 100000 in
theorem zzk_167_0 : ∀ q ∈ zzc_167_0, decode cX7_text q.1 = .ok q.2 := by decide +kernel
def zzc_167_1 : List (Nat × Instr × Nat) := [(91, .ireturn, 1), (92, .aload_n 0, 1), (93, .dup, 1), (94, .getfield 82, 3), (97, .iconst 1, 1), (98, .iadd, 1), (99, .putfield 82, 3), (102, .aload_n 0, 1), (103, .getfield 82, 3), (106, .iconst 1, 1), (107, .isub, 1), (108, .ireturn, 1)]
set_option maxRecDepth 100000 in
theorem zzk_167_1 : ∀ q ∈ zzc_167_1, decode cX7_text q.1 = .ok q.2 := by decide +kernel
def zzc_167 : List (Nat × Instr × Nat) := zzc_167_0 ++ (zzc_167_1)
theorem zzk_167 : ∀ q ∈ zzc_167, decode cX7_text q.1 = .ok q.2 := List.forall_mem_append.mpr ⟨zzk_167_0, zzk_167_1⟩
def zzc_168 : List (Nat × Instr × Nat) := [(0, .iload_n 1, 1), (1, .i2l, 1), (2, .lconst 0, 1), (3, .aload_n 0, 1), (4, .getfield 82, 3), (7, .iconst 1, 1), (8, .isub, 1), (9, .i2l, 1), (10, .invokestatic 88, 3), (13, .ifCond .ne 6, 3), (16, .bipush (-2), 2), (18, .ireturn, 1), (19, .aload_n 0, 1), (20, .getfield 121, 3), (23, .istore_n 2, 1), (24, .aload_n 0, 1), (25, .iload_n 1, 1), (26, .putfield 121, 3), (29, .iload_n 2, 1), (30, .ireturn, 1)]
set_option maxRecDepth 100000 in
theorem zzk_168 : ∀ q ∈ zzc_168, decode cX7_force q.1 = .ok q.2 := by decide +kernel
def zzc_169_0 : List (Nat × Instr × Nat) := [(0, .aload_n 0, 1), (1, .getfield 35, 3), (4, .iload_n 1, 1), (5, .iaload, 1), (6, .istore_n 3, 1), (7, .iload_n 3, 1), (8, .iconst (-1), 1), (9, .if_icmp .ne 5, 3), (12, .iconst (-1), 1), (13, .ireturn, 1), (14, .iload_n 3, 1), (15, .iconst 4, 1), (16, .irem, 1), (17, .iload_n 2, 1), (18, .iadd, 1), (19, .istore 4, 2), (21, .iload 4, 2), (23, .i2l, 1), (24, .lconst 0, 1), (25, .ldc2_w 104, 3), (28, .invokestatic 88, 3), (31, .ifCond .ne 5, 3), (34, .iconst (-1), 1), (35, .ireturn, 1), (36, .iload_n 3, 1), (37, .iconst 4, 1), (38, .irem, 1), (39, .iconst 1, 1), (40, .if_icmp .eq 10, 3), (43, .iload_n 3, 1), (44, .iconst 4, 1), (45, .irem, 1), (46, .iconst 2, 1), (47, .if_icmp .ne 19, 3), (50, .iload 4, 2), (52, .iconst 1, 1), (53, .if_icmp .eq 9, 3), (56, .iload 4, 2), (58, .iconst 2, 1), (59, .if_icmp .ne 7, 3), (62, .iconst 1, 1), (63, .goto 4, 3), (66, .iconst 0, 1), (67, .istore 5, 2), (69, .iload 5, 2), (71, .ifCond .eq 14, 3), (74, .iload_n 3, 1), (75, .iconst 4, 1), (76, .idiv, 1), (77, .iconst 5, 1)]
set_option maxRecDepth 100000 in
theorem zzk_169_0 : ∀ q ∈ zzc_169_0, decode cX7_neighbour q.1 = .ok q.2 := by decide +kernel
def zzc_169_1 : List (Nat × Instr × Nat) := [(78, .if_icmp .eq 7, 3), (81, .iconst (-1), 1), (82, .goto 11, 3), (85, .aload_n 0, 1), (86, .getfield 38, 3), (89, .iload_n 3, 1), (90, .iload_n 2, 1), (91, .iadd, 1), (92, .iaload, 1), (93, .ireturn, 1)]
set_option maxRecDepth 100000 in
theorem zzk_169_1 : ∀ q ∈ zzc_169_1, decode cX7_neighbour q.1 = .ok q.2 := by decide +kernel
def zzc_169 : List (Nat × Instr × Nat) := zzc_169_0 ++ (zzc_169_1)
theorem zzk_169 : ∀ q ∈ zzc_169, decode cX7_neighbour q.1 = .ok q.2 := List.forall_mem_append.mpr ⟨zzk_169_0, zzk_169_1⟩
def zzc_170 : List (Nat × Instr × Nat) := [(0, .aload_n 0, 1), (1, .iload_n 1, 1), (2, .iconst (-1), 1), (3, .invokevirtual 265, 3), (6, .iconst (-1), 1), (7, .if_icmp .ne 7, 3), (10, .iconst 0, 1), (11, .goto 4, 3), (14, .iconst 1, 1), (15, .aload_n 0, 1), (16, .iload_n 1, 1), (17, .iconst 1, 1), (18, .invokevirtual 265, 3), (21, .iconst (-1), 1), (22, .if_icmp .ne 7, 3), (25, .iconst 0, 1), (26, .goto 4, 3), (29, .iconst 1, 1), (30, .iadd, 1), (31, .ireturn, 1)]
set_option maxRecDepth 100000 in
theorem zzk_170 : ∀ q ∈ zzc_170, decode cX7_besideOf q.1 = .ok q.2 := by decide +kernel
def zzc_171 : List (Nat × Instr × Nat) := [(0, .iload_n 1, 1), (1, .iconst (-1), 1), (2, .if_icmp .eq 17, 3), (5, .aload_n 0, 1), (6, .getfield 26, 3), (9, .iload_n 1, 1), (10, .iaload, 1), (11, .iconst 5, 1), (12, .if_icmp .ne 7, 3), (15, .iconst 1, 1), (16, .goto 4, 3), (19, .iconst 0, 1), (20, .ireturn, 1)]
set_option maxRecDepth 100000 in
theorem zzk_171 : ∀ q ∈ zzc_171, decode cX7_isTeacher q.1 = .ok q.2 := by decide +kernel
def zzc_172 : List (Nat × Instr × Nat) := [(0, .aload_n 0, 1), (1, .aload_n 0, 1), (2, .iload_n 1, 1), (3, .iconst (-1), 1), (4, .invokevirtual 265, 3), (7, .invokevirtual 268, 3), (10, .ifCond .ne 16, 3), (13, .aload_n 0, 1), (14, .aload_n 0, 1), (15, .iload_n 1, 1), (16, .iconst 1, 1), (17, .invokevirtual 265, 3), (20, .invokevirtual 268, 3), (23, .ifCond .eq 7, 3), (26, .iconst 1, 1), (27, .goto 4, 3), (30, .iconst 0, 1), (31, .ireturn, 1)]
set_option maxRecDepth 100000 in
theorem zzk_172 : ∀ q ∈ zzc_172, decode cX7_isWatched q.1 = .ok q.2 := by decide +kernel
def zzc_173 : List (Nat × Instr × Nat) := [(0, .aload_n 0, 1), (1, .getfield 32, 3), (4, .iload_n 1, 1), (5, .iaload, 1), (6, .iconst (-1), 1), (7, .if_icmp .eq 37, 3), (10, .aload_n 0, 1), (11, .iload_n 1, 1), (12, .iconst (-1), 1), (13, .invokevirtual 265, 3), (16, .aload_n 0, 1), (17, .getfield 32, 3), (20, .iload_n 1, 1), (21, .iaload, 1), (22, .if_icmp .eq 18, 3), (25, .aload_n 0, 1), (26, .iload_n 1, 1), (27, .iconst 1, 1), (28, .invokevirtual 265, 3), (31, .aload_n 0, 1), (32, .getfield 32, 3), (35, .iload_n 1, 1), (36, .iaload, 1), (37, .if_icmp .ne 7, 3), (40, .iconst 1, 1), (41, .goto 4, 3), (44, .iconst 0, 1), (45, .ireturn, 1)]
set_option maxRecDepth 100000 in
theorem zzk_173 : ∀ q ∈ zzc_173, decode cX7_hasFriend q.1 = .ok q.2 := by decide +kernel
def zzc_174_0 : List (Nat × Instr × Nat) := [(0, .aload_n 0, 1), (1, .aload_n 0, 1), (2, .getfield 35, 3), (5, .iload_n 2, 1), (6, .iaload, 1), (7, .iconst 4, 1), (8, .idiv, 1), (9, .putfield 207, 3), (12, .aload_n 0, 1), (13, .aload_n 0, 1), (14, .getfield 35, 3), (17, .iload_n 2, 1), (18, .iaload, 1), (19, .iconst 4, 1), (20, .irem, 1), (21, .putfield 210, 3), (24, .aload_n 0, 1), (25, .iload_n 3, 1), (26, .putfield 213, 3), (29, .aload_n 0, 1), (30, .aload_n 0, 1), (31, .getfield 29, 3), (34, .iload_n 2, 1), (35, .iaload, 1), (36, .putfield 216, 3), (39, .aload_n 0, 1), (40, .aload_n 0, 1), (41, .iload_n 2, 1), (42, .invokevirtual 140, 3), (45, .putfield 219, 3), (48, .aload_n 0, 1), (49, .aload_n 0, 1), (50, .iload_n 2, 1), (51, .invokevirtual 271, 3), (54, .ifCond .eq 7, 3), (57, .iconst 1, 1), (58, .goto 4, 3), (61, .iconst 0, 1), (62, .putfield 222, 3), (65, .aload_n 0, 1), (66, .aload_n 0, 1), (67, .getfield 121, 3), (70, .iload_n 1, 1), (71, .invokevirtual 262, 3), (74, .iload_n 1, 1), (75, .iconst 2, 1), (76, .if_icmp .ne 8, 3), (79, .bipush (-99), 2), (81, .goto 4, 3), (84, .iconst 0, 1)]
set_option maxRecDepth 100000 in
theorem zzk_174_0 : ∀ q ∈ zzc_174_0, decode cX7_asks q.1 = .ok q.2 := by decide +kernel
def zzc_174_1 : List (Nat × Instr × Nat) := [(85, .bipush 99, 2), (87, .invokestatic 274, 3), (90, .ireturn, 1)]
set_option maxRecDepth 100000 in
theorem zzk_174_1 : ∀ q ∈ zzc_174_1, decode cX7_asks q.1 = .ok q.2 := by decide +kernel
def zzc_174 : List (Nat × Instr × Nat) := zzc_174_0 ++ (zzc_174_1)
theorem zzk_174 : ∀ q ∈ zzc_174, decode cX7_asks q.1 = .ok q.2 := List.forall_mem_append.mpr ⟨zzk_174_0, zzk_174_1⟩
def zzc_175_0 : List (Nat × Instr × Nat) := [(0, .aload_n 0, 1), (1, .getfield 26, 3), (4, .iload_n 1, 1), (5, .iaload, 1), (6, .istore_n 2, 1), (7, .aload_n 0, 1), (8, .getfield 35, 3), (11, .iload_n 1, 1), (12, .iaload, 1), (13, .iconst (-1), 1), (14, .if_icmp .eq 21, 3), (17, .iload_n 2, 1), (18, .iconst 5, 1), (19, .if_icmp .eq 16, 3), (22, .iload_n 2, 1), (23, .iconst 3, 1), (24, .if_icmp .ne 13, 3), (27, .aload_n 0, 1), (28, .iload_n 1, 1), (29, .invokevirtual 143, 3), (32, .ifCond .eq 5, 3), (35, .iconst 0, 1), (36, .ireturn, 1), (37, .aload_n 0, 1), (38, .iconst 0, 1), (39, .iload_n 1, 1), (40, .aload_n 0, 1), (41, .getfield 118, 3), (44, .invokevirtual 278, 3), (47, .istore_n 3, 1), (48, .aload_n 0, 1), (49, .getfield 29, 3), (52, .iload_n 1, 1), (53, .iaload, 1), (54, .istore 4, 2), (56, .aload_n 0, 1), (57, .getfield 35, 3), (60, .iload_n 1, 1), (61, .iaload, 1), (62, .iconst 4, 1), (63, .idiv, 1), (64, .iconst 5, 1), (65, .if_icmp .ne 12, 3), (68, .iconst 2, 1), (69, .iload_n 3, 1), (70, .imul, 1), (71, .iload 4, 2), (73, .iadd, 1), (74, .goto 6, 3), (77, .iconst 2, 1)]
set_option maxRecDepth 100000 in
theorem zzk_175_0 : ∀ q ∈ zzc_175_0, decode cX7_noiseOf q.1 = .ok q.2 := by decide +kernel
def zzc_175_1 : List (Nat × Instr × Nat) := [(78, .iload_n 3, 1), (79, .imul, 1), (80, .istore 5, 2), (82, .iload_n 2, 1), (83, .iconst 1, 1), (84, .if_icmp .ne 8, 3), (87, .iload 5, 2), (89, .goto 41, 3), (92, .iload_n 2, 1), (93, .iconst 3, 1), (94, .if_icmp .ne 10, 3), (97, .iload 5, 2), (99, .iconst 5, 1), (100, .iadd, 1), (101, .goto 29, 3), (104, .iload_n 2, 1), (105, .iconst 2, 1), (106, .if_icmp .ne 9, 3), (109, .iload_n 3, 1), (110, .iconst 2, 1), (111, .idiv, 1), (112, .goto 18, 3), (115, .iload_n 2, 1), (116, .iconst 4, 1), (117, .if_icmp .ne 12, 3), (120, .iload_n 3, 1), (121, .iconst 2, 1), (122, .idiv, 1), (123, .iload 4, 2), (125, .iadd, 1), (126, .goto 4, 3), (129, .iload_n 3, 1), (130, .ireturn, 1)]
set_option maxRecDepth 100000 in
theorem zzk_175_1 : ∀ q ∈ zzc_175_1, decode cX7_noiseOf q.1 = .ok q.2 := by decide +kernel
def zzc_175 : List (Nat × Instr × Nat) := zzc_175_0 ++ (zzc_175_1)
theorem zzk_175 : ∀ q ∈ zzc_175, decode cX7_noiseOf q.1 = .ok q.2 := List.forall_mem_append.mpr ⟨zzk_175_0, zzk_175_1⟩
def zzc_176_0 : List (Nat × Instr × Nat) := [(0, .aload_n 0, 1), (1, .getfield 26, 3), (4, .iload_n 1, 1), (5, .iaload, 1), (6, .istore_n 3, 1), (7, .aload_n 0, 1), (8, .getfield 35, 3), (11, .iload_n 1, 1), (12, .iaload, 1), (13, .iconst (-1), 1), (14, .if_icmp .eq 8, 3), (17, .iload_n 3, 1), (18, .iconst 5, 1), (19, .if_icmp .ne 5, 3), (22, .iconst 0, 1), (23, .ireturn, 1), (24, .aload_n 0, 1), (25, .getfield 35, 3), (28, .iload_n 1, 1), (29, .iaload, 1), (30, .iconst 4, 1), (31, .idiv, 1), (32, .istore 4, 2), (34, .aload_n 0, 1), (35, .iconst 1, 1), (36, .iload_n 1, 1), (37, .iload_n 2, 1), (38, .invokevirtual 278, 3), (41, .istore 5, 2), (43, .iload_n 3, 1), (44, .iconst 2, 1), (45, .if_icmp .ne 13, 3), (48, .iconst 2, 1), (49, .iload 5, 2), (51, .imul, 1), (52, .iload 4, 2), (54, .iadd, 1), (55, .goto 37, 3), (58, .iload_n 3, 1), (59, .iconst 4, 1), (60, .if_icmp .ne 15, 3), (63, .iconst 2, 1), (64, .iload 5, 2), (66, .imul, 1), (67, .iload 4, 2), (69, .iadd, 1), (70, .iconst 2, 1), (71, .idiv, 1), (72, .goto 20, 3), (75, .iload_n 3, 1)]
set_option maxRecDepth 100000 in
theorem zzk_176_0 : ∀ q ∈ zzc_176_0, decode cX7_queasyOf q.1 = .ok q.2 := by decide +kernel
def zzc_176_1 : List (Nat × Instr × Nat) := [(76, .iconst 3, 1), (77, .if_icmp .ne 13, 3), (80, .iload 4, 2), (82, .iconst 5, 1), (83, .if_icmp .ne 7, 3), (86, .iconst 0, 1), (87, .goto 5, 3), (90, .iload 5, 2), (92, .istore 6, 2), (94, .iload 6, 2), (96, .iconst 0, 1), (97, .bipush 99, 2), (99, .invokestatic 274, 3), (102, .ireturn, 1)]
set_option maxRecDepth 100000 in
theorem zzk_176_1 : ∀ q ∈ zzc_176_1, decode cX7_queasyOf q.1 = .ok q.2 := by decide +kernel
def zzc_176 : List (Nat × Instr × Nat) := zzc_176_0 ++ (zzc_176_1)
theorem zzk_176 : ∀ q ∈ zzc_176, decode cX7_queasyOf q.1 = .ok q.2 := List.forall_mem_append.mpr ⟨zzk_176_0, zzk_176_1⟩
def zzc_177_0 : List (Nat × Instr × Nat) := [(0, .aload_n 0, 1), (1, .getfield 26, 3), (4, .iload_n 1, 1), (5, .iaload, 1), (6, .istore_n 2, 1), (7, .aload_n 0, 1), (8, .getfield 35, 3), (11, .iload_n 1, 1), (12, .iaload, 1), (13, .iconst (-1), 1), (14, .if_icmp .ne 5, 3), (17, .iconst 0, 1), (18, .ireturn, 1), (19, .iload_n 2, 1), (20, .iconst 4, 1), (21, .if_icmp .ne 5, 3), (24, .iconst 3, 1), (25, .ireturn, 1), (26, .aload_n 0, 1), (27, .getfield 35, 3), (30, .iload_n 1, 1), (31, .iaload, 1), (32, .iconst 4, 1), (33, .idiv, 1), (34, .istore_n 3, 1), (35, .aload_n 0, 1), (36, .iconst 2, 1), (37, .iload_n 1, 1), (38, .aload_n 0, 1), (39, .getfield 118, 3), (42, .invokevirtual 278, 3), (45, .istore 4, 2), (47, .aload_n 0, 1), (48, .iload_n 1, 1), (49, .invokevirtual 271, 3), (52, .ifCond .eq 11, 3), (55, .iload 4, 2), (57, .bipush 10, 2), (59, .iadd, 1), (60, .goto 5, 3), (63, .iload 4, 2), (65, .istore 5, 2), (67, .iload_n 3, 1), (68, .iconst 5, 1), (69, .if_icmp .ne 10, 3), (72, .iload 5, 2), (74, .iconst 5, 1), (75, .iadd, 1), (76, .goto 5, 3), (79, .iload 5, 2)]
set_option maxRecDepth 100000 in
theorem zzk_177_0 : ∀ q ∈ zzc_177_0, decode cX7_gladOf q.1 = .ok q.2 := by decide +kernel
def zzc_177_1 : List (Nat × Instr × Nat) := [(81, .istore 6, 2), (83, .iload_n 2, 1), (84, .iconst 5, 1), (85, .if_icmp .ne 9, 3), (88, .iload 4, 2), (90, .ineg, 1), (91, .goto 39, 3), (94, .iload_n 2, 1), (95, .iconst 1, 1), (96, .if_icmp .ne 8, 3), (99, .iload 6, 2), (101, .goto 29, 3), (104, .iload_n 2, 1), (105, .iconst 3, 1), (106, .if_icmp .ne 10, 3), (109, .iconst 2, 1), (110, .iload 6, 2), (112, .imul, 1), (113, .goto 17, 3), (116, .iload_n 2, 1), (117, .iconst 2, 1), (118, .if_icmp .ne 10, 3), (121, .iload 5, 2), (123, .iload_n 3, 1), (124, .isub, 1), (125, .goto 5, 3), (128, .iload 5, 2), (130, .ireturn, 1)]
set_option maxRecDepth 100000 in
theorem zzk_177_1 : ∀ q ∈ zzc_177_1, decode cX7_gladOf q.1 = .ok q.2 := by decide +kernel
def zzc_177 : List (Nat × Instr × Nat) := zzc_177_0 ++ (zzc_177_1)
theorem zzk_177 : ∀ q ∈ zzc_177, decode cX7_gladOf q.1 = .ok q.2 := List.forall_mem_append.mpr ⟨zzk_177_0, zzk_177_1⟩
def zzc_178 : List (Nat × Instr × Nat) := [(0, .iconst 0, 1), (1, .istore_n 1, 1), (2, .iconst 0, 1), (3, .istore_n 2, 1), (4, .iload_n 2, 1), (5, .aload_n 0, 1), (6, .getfield 85, 3), (9, .if_icmp .ge 17, 3), (12, .iload_n 1, 1), (13, .aload_n 0, 1), (14, .iload_n 2, 1), (15, .invokevirtual 133, 3), (18, .iadd, 1), (19, .istore_n 1, 1), (20, .iinc 2 1, 3), (23, .goto (-19), 3), (26, .iload_n 1, 1), (27, .ireturn, 1)]
set_option maxRecDepth 100000 in
theorem zzk_178 : ∀ q ∈ zzc_178, decode cX7_din q.1 = .ok q.2 := by decide +kernel
def zzc_179 : List (Nat × Instr × Nat) := [(0, .iconst 0, 1), (1, .istore_n 1, 1), (2, .iconst 0, 1), (3, .istore_n 2, 1), (4, .iload_n 2, 1), (5, .aload_n 0, 1), (6, .getfield 85, 3), (9, .if_icmp .ge 17, 3), (12, .iload_n 1, 1), (13, .aload_n 0, 1), (14, .iload_n 2, 1), (15, .invokevirtual 281, 3), (18, .iadd, 1), (19, .istore_n 1, 1), (20, .iinc 2 1, 3), (23, .goto (-19), 3), (26, .iload_n 1, 1), (27, .ireturn, 1)]
set_option maxRecDepth 100000 in
theorem zzk_179 : ∀ q ∈ zzc_179, decode cX7_joy q.1 = .ok q.2 := by decide +kernel
def zzc_180 : List (Nat × Instr × Nat) := [(0, .iload_n 1, 1), (1, .i2l, 1), (2, .lconst 0, 1), (3, .ldc2_w 284, 3), (6, .invokestatic 88, 3), (9, .ifCond .ne 7, 3), (12, .ldc_w 286, 3), (15, .ireturn, 1), (16, .iload_n 1, 1), (17, .iconst 2, 1), (18, .if_icmp .ge 19, 3), (21, .iload_n 1, 1), (22, .ifCond .ne 10, 3), (25, .aload_n 0, 1), (26, .invokevirtual 287, 3), (29, .goto 7, 3), (32, .aload_n 0, 1), (33, .invokevirtual 290, 3), (36, .ireturn, 1), (37, .iconst 0, 1), (38, .istore_n 2, 1), (39, .iconst 0, 1), (40, .istore_n 3, 1), (41, .iload_n 3, 1), (42, .aload_n 0, 1), (43, .getfield 85, 3), (46, .if_icmp .ge 35, 3), (49, .iload_n 2, 1), (50, .aload_n 0, 1), (51, .getfield 35, 3), (54, .iload_n 3, 1), (55, .iaload, 1), (56, .iconst (-1), 1), (57, .if_icmp .eq 15, 3), (60, .aload_n 0, 1), (61, .iload_n 3, 1), (62, .invokevirtual 140, 3), (65, .ifCond .ne 7, 3), (68, .iconst 1, 1), (69, .goto 4, 3), (72, .iconst 0, 1), (73, .iadd, 1), (74, .istore_n 2, 1), (75, .iinc 3 1, 3), (78, .goto (-37), 3), (81, .iload_n 2, 1), (82, .ireturn, 1)]
set_option maxRecDepth 100000 in
theorem zzk_180 : ∀ q ∈ zzc_180, decode cX7_all q.1 = .ok q.2 := by decide +kernel
def zzc_181_0 : List (Nat × Instr × Nat) := [(0, .aload_n 0, 1), (1, .iconst 0, 1), (2, .putfield 293, 3), (5, .aload_n 0, 1), (6, .iconst (-1), 1), (7, .putfield 296, 3), (10, .iconst 0, 1), (11, .istore_n 3, 1), (12, .iload_n 3, 1), (13, .aload_n 0, 1), (14, .getfield 85, 3), (17, .if_icmp .ge 30, 3), (20, .aload_n 0, 1), (21, .getfield 41, 3), (24, .iload_n 3, 1), (25, .iconst 0, 1), (26, .iastore, 1), (27, .aload_n 0, 1), (28, .getfield 44, 3), (31, .iload_n 3, 1), (32, .iconst 0, 1), (33, .iastore, 1), (34, .aload_n 0, 1), (35, .getfield 47, 3), (38, .iload_n 3, 1), (39, .iconst (-1), 1), (40, .iastore, 1), (41, .iinc 3 1, 3), (44, .goto (-32), 3), (47, .iconst 0, 1), (48, .istore_n 3, 1), (49, .iload_n 3, 1), (50, .iload_n 1, 1), (51, .if_icmp .ge 173, 3), (54, .iconst 0, 1), (55, .istore 4, 2), (57, .iload 4, 2), (59, .aload_n 0, 1), (60, .getfield 85, 3), (63, .if_icmp .ge 124, 3), (66, .aload_n 0, 1), (67, .getfield 41, 3), (70, .iload 4, 2), (72, .dup2, 1), (73, .iaload, 1), (74, .aload_n 0, 1), (75, .iload 4, 2), (77, .aload_n 0, 1), (78, .getfield 118, 3), (81, .iload_n 3, 1)]
set_option maxRecDepth 100000 in
theorem zzk_181_0 : ∀ q ∈ zzc_181_0, decode cX7_rides q.1 = .ok q.2 := by decide +kernel
def zzc_181_1 : List (Nat × Instr × Nat) := [(82, .iadd, 1), (83, .invokevirtual 137, 3), (86, .iadd, 1), (87, .iastore, 1), (88, .aload_n 0, 1), (89, .getfield 41, 3), (92, .iload 4, 2), (94, .iaload, 1), (95, .aload_n 0, 1), (96, .getfield 23, 3), (99, .if_icmp .le 82, 3), (102, .aload_n 0, 1), (103, .getfield 41, 3), (106, .iload 4, 2), (108, .iconst 0, 1), (109, .iastore, 1), (110, .aload_n 0, 1), (111, .getfield 44, 3), (114, .iload 4, 2), (116, .dup2, 1), (117, .iaload, 1), (118, .iconst 1, 1), (119, .iadd, 1), (120, .iastore, 1), (121, .aload_n 0, 1), (122, .dup, 1), (123, .getfield 293, 3), (126, .iconst 1, 1), (127, .iadd, 1), (128, .putfield 293, 3), (131, .aload_n 0, 1), (132, .getfield 47, 3), (135, .iload 4, 2), (137, .aload_n 0, 1), (138, .getfield 47, 3), (141, .iload 4, 2), (143, .iaload, 1), (144, .iconst (-1), 1), (145, .if_icmp .ne 7, 3), (148, .iload_n 3, 1), (149, .goto 10, 3), (152, .aload_n 0, 1), (153, .getfield 47, 3), (156, .iload 4, 2), (158, .iaload, 1), (159, .iastore, 1), (160, .aload_n 0, 1), (161, .aload_n 0, 1), (162, .getfield 296, 3), (165, .iconst (-1), 1)]
set_option maxRecDepth 100000 in
theorem zzk_181_1 : ∀ q ∈ zzc_181_1, decode cX7_rides q.1 = .ok q.2 := by decide +kernel
def zzc_181_2 : List (Nat × Instr × Nat) := [(166, .if_icmp .ne 8, 3), (169, .iload 4, 2), (171, .goto 7, 3), (174, .aload_n 0, 1), (175, .getfield 296, 3), (178, .putfield 296, 3), (181, .iinc 4 1, 3), (184, .goto (-127), 3), (187, .iconst 0, 1), (188, .istore 4, 2), (190, .iload 4, 2), (192, .aload_n 0, 1), (193, .getfield 85, 3), (196, .if_icmp .ge 22, 3), (199, .iload_n 3, 1), (200, .iload_n 2, 1), (201, .if_icmp .ne 17, 3), (204, .aload_n 0, 1), (205, .getfield 41, 3), (208, .iload 4, 2), (210, .iconst 0, 1), (211, .iastore, 1), (212, .iinc 4 1, 3), (215, .goto (-25), 3), (218, .iinc 3 1, 3), (221, .goto (-172), 3), (224, .return_, 1)]
set_option maxRecDepth 100000 in
theorem zzk_181_2 : ∀ q ∈ zzc_181_2, decode cX7_rides q.1 = .ok q.2 := by decide +kernel
def zzc_181 : List (Nat × Instr × Nat) := zzc_181_0 ++ (zzc_181_1 ++ (zzc_181_2))
theorem zzk_181 : ∀ q ∈ zzc_181, decode cX7_rides q.1 = .ok q.2 := List.forall_mem_append.mpr ⟨zzk_181_0, List.forall_mem_append.mpr ⟨zzk_181_1, zzk_181_2⟩⟩
def zzc_182_0 : List (Nat × Instr × Nat) := [(0, .iload_n 2, 1), (1, .i2l, 1), (2, .ldc2_w 181, 3), (5, .ldc2_w 299, 3), (8, .invokestatic 88, 3), (11, .ifCond .eq 18, 3), (14, .aload_n 0, 1), (15, .iload_n 2, 1), (16, .bipush 10, 2), (18, .irem, 1), (19, .invokevirtual 94, 3), (22, .ifCond .eq 7, 3), (25, .iconst 1, 1), (26, .goto 4, 3), (29, .iconst 0, 1), (30, .istore_n 3, 1), (31, .iload_n 1, 1), (32, .i2l, 1), (33, .lconst 0, 1), (34, .ldc2_w 253, 3), (37, .invokestatic 88, 3), (40, .ifCond .eq 17, 3), (43, .iload_n 2, 1), (44, .i2l, 1), (45, .lconst 0, 1), (46, .lconst 1, 1), (47, .invokestatic 88, 3), (50, .ifCond .ne 10, 3), (53, .iload_n 3, 1), (54, .ifCond .ne 6, 3), (57, .bipush (-2), 2), (59, .ireturn, 1), (60, .aload_n 0, 1), (61, .iload_n 1, 1), (62, .iconst (-1), 1), (63, .invokevirtual 301, 3), (66, .iload_n 2, 1), (67, .ifCond .ne 10, 3), (70, .aload_n 0, 1), (71, .getfield 293, 3), (74, .goto 42, 3), (77, .iload_n 2, 1), (78, .iconst 1, 1), (79, .if_icmp .ne 10, 3), (82, .aload_n 0, 1), (83, .getfield 296, 3), (86, .goto 30, 3), (89, .iload_n 2, 1), (90, .bipush 20, 2), (92, .if_icmp .ge 15, 3)]
set_option maxRecDepth 100000 in
theorem zzk_182_0 : ∀ q ∈ zzc_182_0, decode cX7_ride q.1 = .ok q.2 := by decide +kernel
def zzc_182_1 : List (Nat × Instr × Nat) := [(95, .aload_n 0, 1), (96, .getfield 47, 3), (99, .iload_n 2, 1), (100, .bipush 10, 2), (102, .isub, 1), (103, .iaload, 1), (104, .goto 12, 3), (107, .aload_n 0, 1), (108, .getfield 44, 3), (111, .iload_n 2, 1), (112, .bipush 20, 2), (114, .isub, 1), (115, .iaload, 1), (116, .ireturn, 1)]
set_option maxRecDepth 100000 in
theorem zzk_182_1 : ∀ q ∈ zzc_182_1, decode cX7_ride q.1 = .ok q.2 := by decide +kernel
def zzc_182 : List (Nat × Instr × Nat) := zzc_182_0 ++ (zzc_182_1)
theorem zzk_182 : ∀ q ∈ zzc_182, decode cX7_ride q.1 = .ok q.2 := List.forall_mem_append.mpr ⟨zzk_182_0, zzk_182_1⟩
def zzc_183_0 : List (Nat × Instr × Nat) := [(0, .aload_n 0, 1), (1, .iload_n 1, 1), (2, .invokevirtual 94, 3), (5, .ifCond .eq 13, 3), (8, .iload_n 2, 1), (9, .i2l, 1), (10, .lconst 0, 1), (11, .lconst 1, 1), (12, .invokestatic 88, 3), (15, .ifCond .ne 6, 3), (18, .bipush (-2), 2), (20, .ireturn, 1), (21, .aload_n 0, 1), (22, .getfield 35, 3), (25, .iload_n 1, 1), (26, .iaload, 1), (27, .istore_n 3, 1), (28, .aload_n 0, 1), (29, .iconst (-1), 1), (30, .putfield 304, 3), (33, .aload_n 0, 1), (34, .iconst 0, 1), (35, .putfield 307, 3), (38, .iconst 0, 1), (39, .istore 4, 2), (41, .iload 4, 2), (43, .bipush 24, 2), (45, .if_icmp .ge 73, 3), (48, .aload_n 0, 1), (49, .getfield 38, 3), (52, .iload 4, 2), (54, .iaload, 1), (55, .iconst (-1), 1), (56, .if_icmp .eq 14, 3), (59, .aload_n 0, 1), (60, .getfield 38, 3), (63, .iload 4, 2), (65, .iaload, 1), (66, .iload_n 1, 1), (67, .if_icmp .ne 45, 3), (70, .aload_n 0, 1), (71, .iload_n 1, 1), (72, .iload 4, 2), (74, .invokevirtual 129, 3), (77, .aload_n 0, 1), (78, .invokevirtual 287, 3), (81, .istore 5, 2), (83, .aload_n 0, 1), (84, .getfield 304, 3), (87, .iconst (-1), 1)]
set_option maxRecDepth 100000 in
theorem zzk_183_0 : ∀ q ∈ zzc_183_0, decode cX7_best q.1 = .ok q.2 := by decide +kernel
def zzc_183_1 : List (Nat × Instr × Nat) := [(88, .if_icmp .eq 12, 3), (91, .iload 5, 2), (93, .aload_n 0, 1), (94, .getfield 307, 3), (97, .if_icmp .ge 15, 3), (100, .aload_n 0, 1), (101, .iload 4, 2), (103, .putfield 304, 3), (106, .aload_n 0, 1), (107, .iload 5, 2), (109, .putfield 307, 3), (112, .iinc 4 1, 3), (115, .goto (-74), 3), (118, .aload_n 0, 1), (119, .iload_n 1, 1), (120, .iload_n 3, 1), (121, .invokevirtual 129, 3), (124, .iload_n 2, 1), (125, .ifCond .ne 10, 3), (128, .aload_n 0, 1), (129, .getfield 304, 3), (132, .goto 7, 3), (135, .aload_n 0, 1), (136, .getfield 307, 3), (139, .ireturn, 1)]
set_option maxRecDepth 100000 in
theorem zzk_183_1 : ∀ q ∈ zzc_183_1, decode cX7_best q.1 = .ok q.2 := by decide +kernel
def zzc_183 : List (Nat × Instr × Nat) := zzc_183_0 ++ (zzc_183_1)
theorem zzk_183 : ∀ q ∈ zzc_183, decode cX7_best q.1 = .ok q.2 := List.forall_mem_append.mpr ⟨zzk_183_0, zzk_183_1⟩
def zzc_184 : List (Nat × Instr × Nat) := [(0, .aload_n 0, 1), (1, .getfield 35, 3), (4, .iload_n 1, 1), (5, .iaload, 1), (6, .istore_n 3, 1), (7, .aload_n 0, 1), (8, .getfield 35, 3), (11, .iload_n 2, 1), (12, .iaload, 1), (13, .istore 4, 2), (15, .aload_n 0, 1), (16, .getfield 35, 3), (19, .iload_n 1, 1), (20, .iload 4, 2), (22, .iastore, 1), (23, .aload_n 0, 1), (24, .getfield 35, 3), (27, .iload_n 2, 1), (28, .iload_n 3, 1), (29, .iastore, 1), (30, .aload_n 0, 1), (31, .getfield 38, 3), (34, .iload_n 3, 1), (35, .iload_n 2, 1), (36, .iastore, 1), (37, .aload_n 0, 1), (38, .getfield 38, 3), (41, .iload 4, 2), (43, .iload_n 1, 1), (44, .iastore, 1), (45, .return_, 1)]
set_option maxRecDepth 100000 in
theorem zzk_184 : ∀ q ∈ zzc_184, decode cX7_swaps q.1 = .ok q.2 := by decide +kernel
def zzc_185 : List (Nat × Instr × Nat) := [(0, .aload_n 0, 1), (1, .iload_n 1, 1), (2, .iload_n 2, 1), (3, .invokevirtual 310, 3), (6, .aload_n 0, 1), (7, .invokevirtual 287, 3), (10, .istore_n 3, 1), (11, .aload_n 0, 1), (12, .iload_n 1, 1), (13, .iload_n 2, 1), (14, .invokevirtual 310, 3), (17, .iload_n 3, 1), (18, .aload_n 0, 1), (19, .getfield 307, 3), (22, .if_icmp .ge 18, 3), (25, .aload_n 0, 1), (26, .bipush 10, 2), (28, .iload_n 1, 1), (29, .imul, 1), (30, .iload_n 2, 1), (31, .iadd, 1), (32, .putfield 304, 3), (35, .aload_n 0, 1), (36, .iload_n 3, 1), (37, .putfield 307, 3), (40, .return_, 1)]
set_option maxRecDepth 100000 in
theorem zzk_185 : ∀ q ∈ zzc_185, decode cX7_looksAt q.1 = .ok q.2 := by decide +kernel
end
section
/-! the code of each method, read off the class files (written by wip/whole/gen1.py) -/
def zzc_186_0 : List (Nat × Instr × Nat) := [(0, .iload_n 1, 1), (1, .i2l, 1), (2, .lconst 0, 1), (3, .lconst 1, 1), (4, .invokestatic 88, 3), (7, .ifCond .ne 6, 3), (10, .bipush (-2), 2), (12, .ireturn, 1), (13, .aload_n 0, 1), (14, .iconst (-1), 1), (15, .putfield 304, 3), (18, .aload_n 0, 1), (19, .aload_n 0, 1), (20, .invokevirtual 287, 3), (23, .putfield 307, 3), (26, .iconst 0, 1), (27, .istore_n 2, 1), (28, .iload_n 2, 1), (29, .aload_n 0, 1), (30, .getfield 85, 3), (33, .if_icmp .ge 53, 3), (36, .iload_n 2, 1), (37, .iconst 1, 1), (38, .iadd, 1), (39, .istore_n 3, 1), (40, .iload_n 3, 1), (41, .aload_n 0, 1), (42, .getfield 85, 3), (45, .if_icmp .ge 35, 3), (48, .aload_n 0, 1), (49, .getfield 35, 3), (52, .iload_n 2, 1), (53, .iaload, 1), (54, .iconst (-1), 1), (55, .if_icmp .eq 19, 3), (58, .aload_n 0, 1), (59, .getfield 35, 3), (62, .iload_n 3, 1), (63, .iaload, 1), (64, .iconst (-1), 1), (65, .if_icmp .eq 9, 3), (68, .aload_n 0, 1), (69, .iload_n 2, 1), (70, .iload_n 3, 1), (71, .invokevirtual 313, 3), (74, .iinc 3 1, 3), (77, .goto (-37), 3), (80, .iinc 2 1, 3), (83, .goto (-55), 3), (86, .iload_n 1, 1)]
set_option maxRecDepth 100000 in
theorem zzk_186_0 : ∀ q ∈ zzc_186_0, decode cX7_change q.1 = .ok q.2 := by decide +kernel
def zzc_186_1 : List (Nat × Instr × Nat) := [(87, .ifCond .ne 10, 3), (90, .aload_n 0, 1), (91, .getfield 304, 3), (94, .goto 7, 3), (97, .aload_n 0, 1), (98, .getfield 307, 3), (101, .ireturn, 1)]
set_option maxRecDepth 100000 in
theorem zzk_186_1 : ∀ q ∈ zzc_186_1, decode cX7_change q.1 = .ok q.2 := by decide +kernel
def zzc_186 : List (Nat × Instr × Nat) := zzc_186_0 ++ (zzc_186_1)
theorem zzk_186 : ∀ q ∈ zzc_186, decode cX7_change q.1 = .ok q.2 := List.forall_mem_append.mpr ⟨zzk_186_0, zzk_186_1⟩
def zzc_187 : List (Nat × Instr × Nat) := [(0, .iconst 0, 1), (1, .istore_n 1, 1), (2, .iload_n 1, 1), (3, .aload_n 0, 1), (4, .getfield 85, 3), (7, .if_icmp .ge 31, 3), (10, .aload_n 0, 1), (11, .getfield 26, 3), (14, .iload_n 1, 1), (15, .iaload, 1), (16, .iconst 5, 1), (17, .if_icmp .ne 15, 3), (20, .aload_n 0, 1), (21, .getfield 35, 3), (24, .iload_n 1, 1), (25, .iaload, 1), (26, .iconst (-1), 1), (27, .if_icmp .eq 5, 3), (30, .iload_n 1, 1), (31, .ireturn, 1), (32, .iinc 1 1, 3), (35, .goto (-33), 3), (38, .iconst (-1), 1), (39, .ireturn, 1)]
set_option maxRecDepth 100000 in
theorem zzk_187 : ∀ q ∈ zzc_187, decode cX7_firstTeacher q.1 = .ok q.2 := by decide +kernel
def zzc_188_0 : List (Nat × Instr × Nat) := [(0, .iload_n 1, 1), (1, .i2l, 1), (2, .lconst 0, 1), (3, .lconst 1, 1), (4, .invokestatic 88, 3), (7, .ifCond .ne 6, 3), (10, .bipush (-2), 2), (12, .ireturn, 1), (13, .aload_n 0, 1), (14, .iconst (-1), 1), (15, .putfield 304, 3), (18, .aload_n 0, 1), (19, .aload_n 0, 1), (20, .invokevirtual 287, 3), (23, .putfield 307, 3), (26, .aload_n 0, 1), (27, .invokevirtual 316, 3), (30, .istore_n 2, 1), (31, .iload_n 2, 1), (32, .iconst (-1), 1), (33, .if_icmp .ne 7, 3), (36, .iconst (-1), 1), (37, .goto 9, 3), (40, .aload_n 0, 1), (41, .iload_n 2, 1), (42, .iconst (-1), 1), (43, .invokevirtual 265, 3), (46, .istore_n 3, 1), (47, .iload_n 2, 1), (48, .iconst (-1), 1), (49, .if_icmp .ne 7, 3), (52, .iconst (-1), 1), (53, .goto 9, 3), (56, .aload_n 0, 1), (57, .iload_n 2, 1), (58, .iconst 1, 1), (59, .invokevirtual 265, 3), (62, .istore 4, 2), (64, .iconst 0, 1), (65, .istore 5, 2), (67, .iload 5, 2), (69, .aload_n 0, 1), (70, .getfield 85, 3), (73, .if_icmp .ge 89, 3), (76, .iconst 0, 1), (77, .istore 6, 2), (79, .iload 6, 2), (81, .aload_n 0, 1), (82, .getfield 85, 3), (85, .if_icmp .ge 71, 3)]
set_option maxRecDepth 100000 in
theorem zzk_188_0 : ∀ q ∈ zzc_188_0, decode cX7_watch q.1 = .ok q.2 := by decide +kernel
def zzc_188_1 : List (Nat × Instr × Nat) := [(88, .iload 5, 2), (90, .iload 6, 2), (92, .if_icmp .eq 42, 3), (95, .aload_n 0, 1), (96, .getfield 26, 3), (99, .iload 5, 2), (101, .iaload, 1), (102, .iconst 5, 1), (103, .if_icmp .eq 31, 3), (106, .aload_n 0, 1), (107, .getfield 35, 3), (110, .iload 5, 2), (112, .iaload, 1), (113, .iconst (-1), 1), (114, .if_icmp .eq 20, 3), (117, .iload 6, 2), (119, .iload_n 3, 1), (120, .if_icmp .eq 10, 3), (123, .iload 6, 2), (125, .iload 4, 2), (127, .if_icmp .ne 7, 3), (130, .iconst 1, 1), (131, .goto 4, 3), (134, .iconst 0, 1), (135, .istore 7, 2), (137, .iload 7, 2), (139, .ifCond .eq 11, 3), (142, .aload_n 0, 1), (143, .iload 5, 2), (145, .iload 6, 2), (147, .invokevirtual 313, 3), (150, .iinc 6 1, 3), (153, .goto (-74), 3), (156, .iinc 5 1, 3), (159, .goto (-92), 3), (162, .iload_n 1, 1), (163, .ifCond .ne 10, 3), (166, .aload_n 0, 1), (167, .getfield 304, 3), (170, .goto 7, 3), (173, .aload_n 0, 1), (174, .getfield 307, 3), (177, .ireturn, 1)]
set_option maxRecDepth 100000 in
theorem zzk_188_1 : ∀ q ∈ zzc_188_1, decode cX7_watch q.1 = .ok q.2 := by decide +kernel
def zzc_188 : List (Nat × Instr × Nat) := zzc_188_0 ++ (zzc_188_1)
theorem zzk_188 : ∀ q ∈ zzc_188, decode cX7_watch q.1 = .ok q.2 := List.forall_mem_append.mpr ⟨zzk_188_0, zzk_188_1⟩
def zzc_189_0 : List (Nat × Instr × Nat) := [(0, .aload_n 0, 1), (1, .getfield 72, 3), (4, .iload_n 1, 1), (5, .iaload, 1), (6, .iconst 2, 1), (7, .irem, 1), (8, .ifCond .ne 22, 3), (11, .aload_n 0, 1), (12, .getfield 72, 3), (15, .iload_n 1, 1), (16, .iaload, 1), (17, .i2l, 1), (18, .ldc2_w 284, 3), (21, .ldc2_w 319, 3), (24, .invokestatic 88, 3), (27, .ifCond .ne 5, 3), (30, .iconst 0, 1), (31, .ireturn, 1), (32, .aload_n 0, 1), (33, .aload_n 0, 1), (34, .getfield 72, 3), (37, .iload_n 1, 1), (38, .iaload, 1), (39, .iconst 2, 1), (40, .idiv, 1), (41, .putfield 321, 3), (44, .iconst 0, 1), (45, .istore_n 2, 1), (46, .iconst 0, 1), (47, .istore_n 3, 1), (48, .iload_n 3, 1), (49, .aload_n 0, 1), (50, .getfield 321, 3), (53, .if_icmp .ge 50, 3), (56, .aload_n 0, 1), (57, .getfield 75, 3), (60, .bipush 40, 2), (62, .iload_n 1, 1), (63, .imul, 1), (64, .iload_n 3, 1), (65, .iadd, 1), (66, .iaload, 1), (67, .istore 4, 2), (69, .aload_n 0, 1), (70, .iload 4, 2), (72, .invokevirtual 94, 3), (75, .ifCond .eq 13, 3), (78, .iload_n 2, 1), (79, .iload 4, 2), (81, .ishr, 1)]
set_option maxRecDepth 100000 in
theorem zzk_189_0 : ∀ q ∈ zzc_189_0, decode cX7_isHat q.1 = .ok q.2 := by decide +kernel
def zzc_189_1 : List (Nat × Instr × Nat) := [(82, .iconst 1, 1), (83, .iand, 1), (84, .iconst 1, 1), (85, .if_icmp .ne 5, 3), (88, .iconst 0, 1), (89, .ireturn, 1), (90, .iload_n 2, 1), (91, .iconst 1, 1), (92, .iload 4, 2), (94, .ishl, 1), (95, .ior, 1), (96, .istore_n 2, 1), (97, .iinc 3 1, 3), (100, .goto (-52), 3), (103, .iconst 0, 1), (104, .istore_n 3, 1), (105, .aload_n 0, 1), (106, .getfield 321, 3), (109, .istore 4, 2), (111, .iload 4, 2), (113, .iconst 2, 1), (114, .aload_n 0, 1), (115, .getfield 321, 3), (118, .imul, 1), (119, .if_icmp .ge 75, 3), (122, .aload_n 0, 1), (123, .getfield 75, 3), (126, .bipush 40, 2), (128, .iload_n 1, 1), (129, .imul, 1), (130, .iload 4, 2), (132, .iadd, 1), (133, .iaload, 1), (134, .istore 5, 2), (136, .iload 5, 2), (138, .invokestatic 126, 3), (141, .ifCond .eq 38, 3), (144, .iload_n 3, 1), (145, .iload 5, 2), (147, .ishr, 1), (148, .iconst 1, 1), (149, .iand, 1), (150, .iconst 1, 1), (151, .if_icmp .eq 28, 3), (154, .aload_n 0, 1), (155, .getfield 38, 3), (158, .iload 5, 2), (160, .iaload, 1), (161, .iconst (-1), 1), (162, .if_icmp .eq 19, 3)]
set_option maxRecDepth 100000 in
theorem zzk_189_1 : ∀ q ∈ zzc_189_1, decode cX7_isHat q.1 = .ok q.2 := by decide +kernel
def zzc_189_2 : List (Nat × Instr × Nat) := [(165, .iload_n 2, 1), (166, .aload_n 0, 1), (167, .getfield 38, 3), (170, .iload 5, 2), (172, .iaload, 1), (173, .ishr, 1), (174, .iconst 1, 1), (175, .iand, 1), (176, .ifCond .ne 5, 3), (179, .iconst 0, 1), (180, .ireturn, 1), (181, .iload_n 3, 1), (182, .iconst 1, 1), (183, .iload 5, 2), (185, .ishl, 1), (186, .ior, 1), (187, .istore_n 3, 1), (188, .iinc 4 1, 3), (191, .goto (-80), 3), (194, .iconst 1, 1), (195, .ireturn, 1)]
set_option maxRecDepth 100000 in
theorem zzk_189_2 : ∀ q ∈ zzc_189_2, decode cX7_isHat q.1 = .ok q.2 := by decide +kernel
def zzc_189 : List (Nat × Instr × Nat) := zzc_189_0 ++ (zzc_189_1 ++ (zzc_189_2))
theorem zzk_189 : ∀ q ∈ zzc_189, decode cX7_isHat q.1 = .ok q.2 := List.forall_mem_append.mpr ⟨zzk_189_0, List.forall_mem_append.mpr ⟨zzk_189_1, zzk_189_2⟩⟩
def zzc_190_0 : List (Nat × Instr × Nat) := [(0, .iload_n 2, 1), (1, .aload_n 0, 1), (2, .getfield 321, 3), (5, .if_icmp .ne 38, 3), (8, .aload_n 0, 1), (9, .invokevirtual 290, 3), (12, .istore 5, 2), (14, .aload_n 0, 1), (15, .getfield 324, 3), (18, .ifCond .eq 12, 3), (21, .iload 5, 2), (23, .aload_n 0, 1), (24, .getfield 327, 3), (27, .if_icmp .le 15, 3), (30, .aload_n 0, 1), (31, .iload 4, 2), (33, .putfield 324, 3), (36, .aload_n 0, 1), (37, .iload 5, 2), (39, .putfield 327, 3), (42, .return_, 1), (43, .iconst 0, 1), (44, .istore 5, 2), (46, .iload 5, 2), (48, .aload_n 0, 1), (49, .getfield 321, 3), (52, .if_icmp .ge 85, 3), (55, .iload_n 3, 1), (56, .iload 5, 2), (58, .ishr, 1), (59, .iconst 1, 1), (60, .iand, 1), (61, .ifCond .ne 70, 3), (64, .aload_n 0, 1), (65, .getfield 75, 3), (68, .bipush 40, 2), (70, .iload_n 1, 1), (71, .imul, 1), (72, .iload 5, 2), (74, .iadd, 1), (75, .iaload, 1), (76, .istore 6, 2), (78, .aload_n 0, 1), (79, .iload 6, 2), (81, .aload_n 0, 1), (82, .getfield 75, 3), (85, .bipush 40, 2), (87, .iload_n 1, 1), (88, .imul, 1), (89, .aload_n 0, 1)]
set_option maxRecDepth 100000 in
theorem zzk_190_0 : ∀ q ∈ zzc_190_0, decode cX7_seeks q.1 = .ok q.2 := by decide +kernel
def zzc_190_1 : List (Nat × Instr × Nat) := [(90, .getfield 321, 3), (93, .iadd, 1), (94, .iload_n 2, 1), (95, .iadd, 1), (96, .iaload, 1), (97, .invokevirtual 129, 3), (100, .aload_n 0, 1), (101, .iload_n 1, 1), (102, .iload_n 2, 1), (103, .iconst 1, 1), (104, .iadd, 1), (105, .iload_n 3, 1), (106, .iconst 1, 1), (107, .iload 5, 2), (109, .ishl, 1), (110, .ior, 1), (111, .bipush 10, 2), (113, .iload 4, 2), (115, .imul, 1), (116, .iload 5, 2), (118, .iadd, 1), (119, .iconst 1, 1), (120, .iadd, 1), (121, .invokevirtual 330, 3), (124, .aload_n 0, 1), (125, .iload 6, 2), (127, .iconst (-1), 1), (128, .invokevirtual 129, 3), (131, .iinc 5 1, 3), (134, .goto (-88), 3), (137, .return_, 1)]
set_option maxRecDepth 100000 in
theorem zzk_190_1 : ∀ q ∈ zzc_190_1, decode cX7_seeks q.1 = .ok q.2 := by decide +kernel
def zzc_190 : List (Nat × Instr × Nat) := zzc_190_0 ++ (zzc_190_1)
theorem zzk_190 : ∀ q ∈ zzc_190, decode cX7_seeks q.1 = .ok q.2 := List.forall_mem_append.mpr ⟨zzk_190_0, zzk_190_1⟩
def zzc_191 : List (Nat × Instr × Nat) := [(0, .iconst 0, 1), (1, .istore_n 1, 1), (2, .iload_n 1, 1), (3, .aload_n 0, 1), (4, .getfield 85, 3), (7, .if_icmp .ge 21, 3), (10, .aload_n 0, 1), (11, .getfield 50, 3), (14, .iload_n 1, 1), (15, .aload_n 0, 1), (16, .getfield 35, 3), (19, .iload_n 1, 1), (20, .iaload, 1), (21, .iastore, 1), (22, .iinc 1 1, 3), (25, .goto (-23), 3), (28, .return_, 1)]
set_option maxRecDepth 100000 in
theorem zzk_191 : ∀ q ∈ zzc_191, decode cX7_stands q.1 = .ok q.2 := by decide +kernel
def zzc_192 : List (Nat × Instr × Nat) := [(0, .iconst 0, 1), (1, .istore_n 1, 1), (2, .iload_n 1, 1), (3, .aload_n 0, 1), (4, .getfield 85, 3), (7, .if_icmp .ge 15, 3), (10, .aload_n 0, 1), (11, .iload_n 1, 1), (12, .iconst (-1), 1), (13, .invokevirtual 129, 3), (16, .iinc 1 1, 3), (19, .goto (-17), 3), (22, .iconst 0, 1), (23, .istore_n 1, 1), (24, .iload_n 1, 1), (25, .aload_n 0, 1), (26, .getfield 85, 3), (29, .if_icmp .ge 20, 3), (32, .aload_n 0, 1), (33, .iload_n 1, 1), (34, .aload_n 0, 1), (35, .getfield 50, 3), (38, .iload_n 1, 1), (39, .iaload, 1), (40, .invokevirtual 129, 3), (43, .iinc 1 1, 3), (46, .goto (-22), 3), (49, .return_, 1)]
set_option maxRecDepth 100000 in
theorem zzk_192 : ∀ q ∈ zzc_192, decode cX7_sitsAgain q.1 = .ok q.2 := by decide +kernel
def zzc_193_0 : List (Nat × Instr × Nat) := [(0, .iload_n 1, 1), (1, .invokestatic 334, 3), (4, .ifCond .eq 30, 3), (7, .iload_n 2, 1), (8, .i2l, 1), (9, .lconst 0, 1), (10, .lconst 1, 1), (11, .invokestatic 88, 3), (14, .ifCond .eq 20, 3), (17, .aload_n 0, 1), (18, .getfield 65, 3), (21, .iload_n 1, 1), (22, .baload, 1), (23, .ifCond .eq 11, 3), (26, .aload_n 0, 1), (27, .iload_n 1, 1), (28, .invokevirtual 337, 3), (31, .ifCond .ne 7, 3), (34, .ldc_w 286, 3), (37, .ireturn, 1), (38, .aload_n 0, 1), (39, .invokevirtual 340, 3), (42, .iconst 0, 1), (43, .istore_n 3, 1), (44, .iload_n 3, 1), (45, .aload_n 0, 1), (46, .getfield 321, 3), (49, .if_icmp .ge 25, 3), (52, .aload_n 0, 1), (53, .aload_n 0, 1), (54, .getfield 75, 3), (57, .bipush 40, 2), (59, .iload_n 1, 1), (60, .imul, 1), (61, .iload_n 3, 1), (62, .iadd, 1), (63, .iaload, 1), (64, .iconst (-1), 1), (65, .invokevirtual 129, 3), (68, .iinc 3 1, 3), (71, .goto (-27), 3), (74, .aload_n 0, 1), (75, .iconst 0, 1), (76, .putfield 324, 3), (79, .aload_n 0, 1), (80, .iconst 0, 1), (81, .putfield 327, 3), (84, .aload_n 0, 1), (85, .iload_n 1, 1), (86, .iconst 0, 1)]
set_option maxRecDepth 100000 in
theorem zzk_193_0 : ∀ q ∈ zzc_193_0, decode cX7_hat q.1 = .ok q.2 := by decide +kernel
def zzc_193_1 : List (Nat × Instr × Nat) := [(87, .iconst 0, 1), (88, .iconst 0, 1), (89, .invokevirtual 330, 3), (92, .aload_n 0, 1), (93, .invokevirtual 343, 3), (96, .iload_n 2, 1), (97, .ifCond .ne 10, 3), (100, .aload_n 0, 1), (101, .getfield 327, 3), (104, .goto 7, 3), (107, .aload_n 0, 1), (108, .getfield 324, 3), (111, .ireturn, 1)]
set_option maxRecDepth 100000 in
theorem zzk_193_1 : ∀ q ∈ zzc_193_1, decode cX7_hat q.1 = .ok q.2 := by decide +kernel
def zzc_193 : List (Nat × Instr × Nat) := zzc_193_0 ++ (zzc_193_1)
theorem zzk_193 : ∀ q ∈ zzc_193, decode cX7_hat q.1 = .ok q.2 := List.forall_mem_append.mpr ⟨zzk_193_0, zzk_193_1⟩
def zzc_194_0 : List (Nat × Instr × Nat) := [(0, .iload_n 1, 1), (1, .i2l, 1), (2, .lconst 0, 1), (3, .ldc2_w 253, 3), (6, .invokestatic 88, 3), (9, .ifCond .eq 13, 3), (12, .iload_n 2, 1), (13, .i2l, 1), (14, .lconst 0, 1), (15, .lconst 1, 1), (16, .invokestatic 88, 3), (19, .ifCond .ne 6, 3), (22, .bipush (-2), 2), (24, .ireturn, 1), (25, .aload_n 0, 1), (26, .iload_n 1, 1), (27, .iconst (-1), 1), (28, .invokevirtual 301, 3), (31, .aload_n 0, 1), (32, .iconst (-1), 1), (33, .putfield 304, 3), (36, .aload_n 0, 1), (37, .aload_n 0, 1), (38, .getfield 293, 3), (41, .putfield 307, 3), (44, .iconst (-1), 1), (45, .istore_n 3, 1), (46, .iconst 3, 1), (47, .istore 4, 2), (49, .iload 4, 2), (51, .ifCond .lt 27, 3), (54, .aload_n 0, 1), (55, .getfield 38, 3), (58, .iload 4, 2), (60, .iaload, 1), (61, .iconst (-1), 1), (62, .if_icmp .ne 8, 3), (65, .iload 4, 2), (67, .goto 4, 3), (70, .iload_n 3, 1), (71, .istore_n 3, 1), (72, .iinc 4 (-1), 3), (75, .goto (-26), 3), (78, .iconst 0, 1), (79, .istore 4, 2), (81, .iload 4, 2), (83, .aload_n 0, 1), (84, .getfield 85, 3), (87, .if_icmp .ge 75, 3), (90, .iload_n 3, 1)]
set_option maxRecDepth 100000 in
theorem zzk_194_0 : ∀ q ∈ zzc_194_0, decode cX7_front q.1 = .ok q.2 := by decide +kernel
def zzc_194_1 : List (Nat × Instr × Nat) := [(91, .iconst (-1), 1), (92, .if_icmp .eq 70, 3), (95, .aload_n 0, 1), (96, .getfield 35, 3), (99, .iload 4, 2), (101, .iaload, 1), (102, .istore 5, 2), (104, .iload 5, 2), (106, .iconst (-1), 1), (107, .if_icmp .eq 49, 3), (110, .aload_n 0, 1), (111, .iload 4, 2), (113, .iload_n 3, 1), (114, .invokevirtual 129, 3), (117, .aload_n 0, 1), (118, .iload_n 1, 1), (119, .iconst (-1), 1), (120, .invokevirtual 301, 3), (123, .aload_n 0, 1), (124, .iload 4, 2), (126, .iload 5, 2), (128, .invokevirtual 129, 3), (131, .aload_n 0, 1), (132, .getfield 293, 3), (135, .aload_n 0, 1), (136, .getfield 307, 3), (139, .if_icmp .ge 17, 3), (142, .aload_n 0, 1), (143, .iload 4, 2), (145, .putfield 304, 3), (148, .aload_n 0, 1), (149, .aload_n 0, 1), (150, .getfield 293, 3), (153, .putfield 307, 3), (156, .iinc 4 1, 3), (159, .goto (-78), 3), (162, .iload_n 2, 1), (163, .ifCond .ne 10, 3), (166, .aload_n 0, 1), (167, .getfield 304, 3), (170, .goto 7, 3), (173, .aload_n 0, 1), (174, .getfield 307, 3), (177, .ireturn, 1)]
set_option maxRecDepth 100000 in
theorem zzk_194_1 : ∀ q ∈ zzc_194_1, decode cX7_front q.1 = .ok q.2 := by decide +kernel
def zzc_194 : List (Nat × Instr × Nat) := zzc_194_0 ++ (zzc_194_1)
theorem zzk_194 : ∀ q ∈ zzc_194, decode cX7_front q.1 = .ok q.2 := List.forall_mem_append.mpr ⟨zzk_194_0, zzk_194_1⟩
def zzc_195_0 : List (Nat × Instr × Nat) := [(0, .iload_n 1, 1), (1, .i2l, 1), (2, .lconst 0, 1), (3, .ldc2_w 253, 3), (6, .invokestatic 88, 3), (9, .ifCond .eq 13, 3), (12, .iload_n 2, 1), (13, .i2l, 1), (14, .lconst 0, 1), (15, .lconst 1, 1), (16, .invokestatic 88, 3), (19, .ifCond .ne 6, 3), (22, .bipush (-2), 2), (24, .ireturn, 1), (25, .aload_n 0, 1), (26, .iload_n 1, 1), (27, .iconst (-1), 1), (28, .invokevirtual 301, 3), (31, .aload_n 0, 1), (32, .iconst (-1), 1), (33, .putfield 304, 3), (36, .aload_n 0, 1), (37, .aload_n 0, 1), (38, .getfield 293, 3), (41, .putfield 307, 3), (44, .iconst 0, 1), (45, .istore_n 3, 1), (46, .iload_n 3, 1), (47, .iload_n 1, 1), (48, .if_icmp .ge 39, 3), (51, .aload_n 0, 1), (52, .iload_n 1, 1), (53, .iload_n 3, 1), (54, .invokevirtual 301, 3), (57, .aload_n 0, 1), (58, .getfield 293, 3), (61, .aload_n 0, 1), (62, .getfield 307, 3), (65, .if_icmp .ge 16, 3), (68, .aload_n 0, 1), (69, .iload_n 3, 1), (70, .putfield 304, 3), (73, .aload_n 0, 1), (74, .aload_n 0, 1), (75, .getfield 293, 3), (78, .putfield 307, 3), (81, .iinc 3 1, 3), (84, .goto (-38), 3), (87, .iload_n 2, 1), (88, .ifCond .ne 10, 3)]
set_option maxRecDepth 100000 in
theorem zzk_195_0 : ∀ q ∈ zzc_195_0, decode cX7_stop q.1 = .ok q.2 := by decide +kernel
def zzc_195_1 : List (Nat × Instr × Nat) := [(91, .aload_n 0, 1), (92, .getfield 304, 3), (95, .goto 7, 3), (98, .aload_n 0, 1), (99, .getfield 307, 3), (102, .ireturn, 1)]
set_option maxRecDepth 100000 in
theorem zzk_195_1 : ∀ q ∈ zzc_195_1, decode cX7_stop q.1 = .ok q.2 := by decide +kernel
def zzc_195 : List (Nat × Instr × Nat) := zzc_195_0 ++ (zzc_195_1)
theorem zzk_195 : ∀ q ∈ zzc_195, decode cX7_stop q.1 = .ok q.2 := List.forall_mem_append.mpr ⟨zzk_195_0, zzk_195_1⟩
def zzc_196 : List (Nat × Instr × Nat) := [(0, .iconst 0, 1), (1, .istore_n 2, 1), (2, .iconst 0, 1), (3, .istore_n 3, 1), (4, .iload_n 3, 1), (5, .aload_n 0, 1), (6, .getfield 85, 3), (9, .if_icmp .ge 38, 3), (12, .iload_n 2, 1), (13, .aload_n 0, 1), (14, .iload_n 3, 1), (15, .invokevirtual 133, 3), (18, .aload_n 0, 1), (19, .getfield 75, 3), (22, .bipush 40, 2), (24, .iload_n 1, 1), (25, .imul, 1), (26, .iload_n 3, 1), (27, .iadd, 1), (28, .iaload, 1), (29, .if_icmp .ne 7, 3), (32, .iconst 0, 1), (33, .goto 4, 3), (36, .iconst 1, 1), (37, .iload_n 3, 1), (38, .ishl, 1), (39, .ior, 1), (40, .istore_n 2, 1), (41, .iinc 3 1, 3), (44, .goto (-40), 3), (47, .iload_n 2, 1), (48, .ireturn, 1)]
set_option maxRecDepth 100000 in
theorem zzk_196 : ∀ q ∈ zzc_196, decode cX7_unlike q.1 = .ok q.2 := by decide +kernel
def zzc_197 : List (Nat × Instr × Nat) := [(0, .aload_n 0, 1), (1, .getfield 35, 3), (4, .iload_n 2, 1), (5, .iaload, 1), (6, .istore_n 3, 1), (7, .iconst 0, 1), (8, .istore 4, 2), (10, .iconst 0, 1), (11, .istore 5, 2), (13, .iload 5, 2), (15, .bipush 24, 2), (17, .if_icmp .ge 60, 3), (20, .aload_n 0, 1), (21, .getfield 38, 3), (24, .iload 5, 2), (26, .iaload, 1), (27, .iconst (-1), 1), (28, .if_icmp .eq 9, 3), (31, .iload 5, 2), (33, .iload_n 3, 1), (34, .if_icmp .ne 37, 3), (37, .aload_n 0, 1), (38, .iload_n 2, 1), (39, .iload 5, 2), (41, .invokevirtual 129, 3), (44, .iload 4, 2), (46, .aload_n 0, 1), (47, .iload_n 1, 1), (48, .invokevirtual 346, 3), (51, .ifCond .ne 7, 3), (54, .iconst 1, 1), (55, .goto 4, 3), (58, .iconst 0, 1), (59, .iload 5, 2), (61, .ishl, 1), (62, .ior, 1), (63, .istore 4, 2), (65, .aload_n 0, 1), (66, .iload_n 2, 1), (67, .iload_n 3, 1), (68, .invokevirtual 129, 3), (71, .iinc 5 1, 3), (74, .goto (-61), 3), (77, .iload 4, 2), (79, .ireturn, 1)]
set_option maxRecDepth 100000 in
theorem zzk_197 : ∀ q ∈ zzc_197, decode cX7_seatsBy q.1 = .ok q.2 := by decide +kernel
def zzc_198_0 : List (Nat × Instr × Nat) := [(0, .iload_n 2, 1), (1, .i2l, 1), (2, .ldc2_w 181, 3), (5, .ldc2_w 349, 3), (8, .invokestatic 88, 3), (11, .ifCond .eq 18, 3), (14, .aload_n 0, 1), (15, .iload_n 2, 1), (16, .bipush 10, 2), (18, .irem, 1), (19, .invokevirtual 94, 3), (22, .ifCond .eq 7, 3), (25, .iconst 1, 1), (26, .goto 4, 3), (29, .iconst 0, 1), (30, .istore_n 3, 1), (31, .iload_n 1, 1), (32, .invokestatic 334, 3), (35, .ifCond .eq 19, 3), (38, .iload_n 2, 1), (39, .i2l, 1), (40, .lconst 0, 1), (41, .ldc2_w 104, 3), (44, .invokestatic 88, 3), (47, .ifCond .ne 10, 3), (50, .iload_n 3, 1), (51, .ifCond .ne 6, 3), (54, .bipush (-2), 2), (56, .ireturn, 1), (57, .aload_n 0, 1), (58, .getfield 65, 3), (61, .iload_n 1, 1), (62, .baload, 1), (63, .ifCond .ne 6, 3), (66, .bipush (-11), 2), (68, .ireturn, 1), (69, .aload_n 0, 1), (70, .getfield 72, 3), (73, .iload_n 1, 1), (74, .iaload, 1), (75, .aload_n 0, 1), (76, .getfield 85, 3), (79, .if_icmp .eq 6, 3), (82, .bipush (-2), 2), (84, .ireturn, 1), (85, .iload_n 2, 1), (86, .ifCond .ne 9, 3), (89, .aload_n 0, 1), (90, .iload_n 1, 1), (91, .invokevirtual 346, 3)]
set_option maxRecDepth 100000 in
theorem zzk_198_0 : ∀ q ∈ zzc_198_0, decode cX7_tells q.1 = .ok q.2 := by decide +kernel
def zzc_198_1 : List (Nat × Instr × Nat) := [(94, .ireturn, 1), (95, .iload_n 2, 1), (96, .bipush 29, 2), (98, .if_icmp .le 13, 3), (101, .aload_n 0, 1), (102, .iload_n 1, 1), (103, .iload_n 2, 1), (104, .bipush 30, 2), (106, .isub, 1), (107, .invokevirtual 351, 3), (110, .ireturn, 1), (111, .iload_n 2, 1), (112, .bipush 10, 2), (114, .irem, 1), (115, .istore 4, 2), (117, .iload_n 2, 1), (118, .iconst 1, 1), (119, .if_icmp .ne 7, 3), (122, .iconst 5, 1), (123, .goto 23, 3), (126, .iload_n 2, 1), (127, .iconst 4, 1), (128, .if_icmp .ge 7, 3), (131, .iconst 0, 1), (132, .goto 14, 3), (135, .iload_n 2, 1), (136, .bipush 20, 2), (138, .if_icmp .ge 7, 3), (141, .iconst 4, 1), (142, .goto 4, 3), (145, .iconst 2, 1), (146, .istore 5, 2), (148, .iload 5, 2), (150, .iconst 5, 1), (151, .if_icmp .ne 10, 3), (154, .aload_n 0, 1), (155, .getfield 121, 3), (158, .goto 11, 3), (161, .aload_n 0, 1), (162, .iload 4, 2), (164, .iload 5, 2), (166, .invokevirtual 110, 3), (169, .istore 6, 2), (171, .iload 5, 2), (173, .iconst 5, 1), (174, .if_icmp .ne 12, 3), (177, .aload_n 0, 1), (178, .getfield 82, 3), (181, .iconst 1, 1), (182, .isub, 1)]
set_option maxRecDepth 100000 in
theorem zzk_198_1 : ∀ q ∈ zzc_198_1, decode cX7_tells q.1 = .ok q.2 := by decide +kernel
def zzc_198_2 : List (Nat × Instr × Nat) := [(183, .goto 25, 3), (186, .iload 5, 2), (188, .ifCond .ne 8, 3), (191, .bipush 99, 2), (193, .goto 15, 3), (196, .iload 5, 2), (198, .iconst 4, 1), (199, .if_icmp .ne 7, 3), (202, .iconst 5, 1), (203, .goto 5, 3), (206, .bipush 9, 2), (208, .istore 7, 2), (210, .iconst 0, 1), (211, .istore 8, 2), (213, .iconst 0, 1), (214, .istore 9, 2), (216, .iconst (-1), 1), (217, .istore 10, 2), (219, .iload 7, 2), (221, .istore 11, 2), (223, .iload 11, 2), (225, .ifCond .lt 52, 3), (228, .aload_n 0, 1), (229, .iload 5, 2), (231, .iload 4, 2), (233, .iload 11, 2), (235, .invokevirtual 114, 3), (238, .aload_n 0, 1), (239, .iload_n 1, 1), (240, .invokevirtual 346, 3), (243, .ifCond .ne 28, 3), (246, .iload 8, 2), (248, .iload 5, 2), (250, .ifCond .ne 7, 3), (253, .iconst 0, 1), (254, .goto 7, 3), (257, .iconst 1, 1), (258, .iload 11, 2), (260, .ishl, 1), (261, .ior, 1), (262, .istore 8, 2), (264, .iinc 9 1, 3), (267, .iload 11, 2), (269, .istore 10, 2), (271, .iinc 11 (-1), 3), (274, .goto (-51), 3), (277, .aload_n 0, 1), (278, .iload 5, 2), (280, .iload 4, 2), (282, .iload 6, 2)]
set_option maxRecDepth 100000 in
theorem zzk_198_2 : ∀ q ∈ zzc_198_2, decode cX7_tells q.1 = .ok q.2 := by decide +kernel
def zzc_198_3 : List (Nat × Instr × Nat) := [(284, .invokevirtual 114, 3), (287, .iload_n 2, 1), (288, .iconst 2, 1), (289, .if_icmp .ne 8, 3), (292, .iload 9, 2), (294, .goto 15, 3), (297, .iload_n 2, 1), (298, .iconst 3, 1), (299, .if_icmp .ne 8, 3), (302, .iload 10, 2), (304, .goto 5, 3), (307, .iload 8, 2), (309, .ireturn, 1)]
set_option maxRecDepth 100000 in
theorem zzk_198_3 : ∀ q ∈ zzc_198_3, decode cX7_tells q.1 = .ok q.2 := by decide +kernel
def zzc_198 : List (Nat × Instr × Nat) := zzc_198_0 ++ (zzc_198_1 ++ (zzc_198_2 ++ (zzc_198_3)))
theorem zzk_198 : ∀ q ∈ zzc_198, decode cX7_tells q.1 = .ok q.2 := List.forall_mem_append.mpr ⟨zzk_198_0, List.forall_mem_append.mpr ⟨zzk_198_1, List.forall_mem_append.mpr ⟨zzk_198_2, zzk_198_3⟩⟩⟩
def zzc_199 : List (Nat × Instr × Nat) := [(0, .iload_n 1, 1), (1, .invokestatic 334, 3), (4, .ifCond .ne 6, 3), (7, .bipush (-2), 2), (9, .ireturn, 1), (10, .aload_n 0, 1), (11, .iload_n 1, 1), (12, .iconst 1, 1), (13, .aload_n 0, 1), (14, .getfield 85, 3), (17, .invokevirtual 354, 3), (20, .pop, 1), (21, .iconst 0, 1), (22, .istore_n 2, 1), (23, .iload_n 2, 1), (24, .aload_n 0, 1), (25, .getfield 85, 3), (28, .if_icmp .ge 25, 3), (31, .aload_n 0, 1), (32, .getfield 75, 3), (35, .bipush 40, 2), (37, .iload_n 1, 1), (38, .imul, 1), (39, .iload_n 2, 1), (40, .iadd, 1), (41, .aload_n 0, 1), (42, .iload_n 2, 1), (43, .invokevirtual 133, 3), (46, .iastore, 1), (47, .iinc 2 1, 3), (50, .goto (-27), 3), (53, .aload_n 0, 1), (54, .getfield 85, 3), (57, .ireturn, 1)]
set_option maxRecDepth 100000 in
theorem zzk_199 : ∀ q ∈ zzc_199, decode cX7_film q.1 = .ok q.2 := by decide +kernel
def zzc_200_0 : List (Nat × Instr × Nat) := [(0, .aload_n 0, 1), (1, .invokevirtual 340, 3), (4, .iconst 0, 1), (5, .istore_n 2, 1), (6, .iload_n 2, 1), (7, .aload_n 0, 1), (8, .getfield 85, 3), (11, .if_icmp .ge 15, 3), (14, .aload_n 0, 1), (15, .iload_n 2, 1), (16, .iconst (-1), 1), (17, .invokevirtual 129, 3), (20, .iinc 2 1, 3), (23, .goto (-17), 3), (26, .iload_n 1, 1), (27, .istore_n 2, 1), (28, .iconst 0, 1), (29, .istore_n 3, 1), (30, .iload_n 3, 1), (31, .aload_n 0, 1), (32, .getfield 85, 3), (35, .if_icmp .ge 58, 3), (38, .iload_n 2, 1), (39, .ldc_w 357, 3), (42, .imul, 1), (43, .sipush 12345, 3), (46, .iadd, 1), (47, .istore_n 2, 1), (48, .iload_n 2, 1), (49, .bipush 9, 2), (51, .iushr, 1), (52, .bipush 24, 2), (54, .irem, 1), (55, .istore 4, 2), (57, .aload_n 0, 1), (58, .getfield 38, 3), (61, .iload 4, 2), (63, .iaload, 1), (64, .iconst (-1), 1), (65, .if_icmp .eq 15, 3), (68, .iload 4, 2), (70, .iconst 1, 1), (71, .iadd, 1), (72, .bipush 24, 2), (74, .irem, 1), (75, .istore 4, 2), (77, .goto (-20), 3), (80, .aload_n 0, 1), (81, .iload_n 3, 1), (82, .iload 4, 2)]
set_option maxRecDepth 100000 in
theorem zzk_200_0 : ∀ q ∈ zzc_200_0, decode cX7_dinBy q.1 = .ok q.2 := by decide +kernel
def zzc_200_1 : List (Nat × Instr × Nat) := [(84, .invokevirtual 129, 3), (87, .iinc 3 1, 3), (90, .goto (-60), 3), (93, .aload_n 0, 1), (94, .invokevirtual 287, 3), (97, .istore_n 3, 1), (98, .aload_n 0, 1), (99, .invokevirtual 343, 3), (102, .iload_n 3, 1), (103, .ireturn, 1)]
set_option maxRecDepth 100000 in
theorem zzk_200_1 : ∀ q ∈ zzc_200_1, decode cX7_dinBy q.1 = .ok q.2 := by decide +kernel
def zzc_200 : List (Nat × Instr × Nat) := zzc_200_0 ++ (zzc_200_1)
theorem zzk_200 : ∀ q ∈ zzc_200, decode cX7_dinBy q.1 = .ok q.2 := List.forall_mem_append.mpr ⟨zzk_200_0, zzk_200_1⟩
def zzc_201 : List (Nat × Instr × Nat) := [(0, .aload_n 0, 1), (1, .iload_n 1, 1), (2, .invokevirtual 358, 3), (5, .ireturn, 1)]
set_option maxRecDepth 100000 in
theorem zzk_201 : ∀ q ∈ zzc_201, decode cX7_drawn q.1 = .ok q.2 := by decide +kernel
def zzc_202_0 : List (Nat × Instr × Nat) := [(0, .iload_n 2, 1), (1, .i2l, 1), (2, .lconst 1, 1), (3, .ldc2_w 361, 3), (6, .invokestatic 88, 3), (9, .ifCond .eq 13, 3), (12, .iload_n 3, 1), (13, .i2l, 1), (14, .lconst 0, 1), (15, .lconst 1, 1), (16, .invokestatic 88, 3), (19, .ifCond .ne 7, 3), (22, .ldc2_w 363, 3), (25, .lreturn, 1), (26, .aload_n 0, 1), (27, .invokevirtual 287, 3), (30, .istore 4, 2), (32, .lconst 0, 1), (33, .lstore 5, 2), (35, .iconst 0, 1), (36, .istore 7, 2), (38, .iload 7, 2), (40, .iload_n 2, 1), (41, .if_icmp .ge 32, 3), (44, .lload 5, 2), (46, .aload_n 0, 1), (47, .iload_n 1, 1), (48, .iload 7, 2), (50, .iadd, 1), (51, .invokevirtual 358, 3), (54, .iload 4, 2), (56, .if_icmp .gt 7, 3), (59, .lconst 1, 1), (60, .goto 4, 3), (63, .lconst 0, 1), (64, .ladd, 1), (65, .lstore 5, 2), (67, .iinc 7 1, 3), (70, .goto (-32), 3), (73, .lload 5, 2), (75, .lstore 7, 2), (77, .iload_n 2, 1), (78, .i2l, 1), (79, .lstore 9, 2), (81, .lload 9, 2), (83, .lconst 0, 1), (84, .lcmp, 1), (85, .ifCond .eq 21, 3), (88, .lload 7, 2), (90, .lload 9, 2)]
set_option maxRecDepth 100000 in
theorem zzk_202_0 : ∀ q ∈ zzc_202_0, decode cX7_chance q.1 = .ok q.2 := by decide +kernel
def zzc_202_1 : List (Nat × Instr × Nat) := [(92, .lrem, 1), (93, .lstore 11, 2), (95, .lload 9, 2), (97, .lstore 7, 2), (99, .lload 11, 2), (101, .lstore 9, 2), (103, .goto (-22), 3), (106, .iload_n 3, 1), (107, .ifCond .ne 11, 3), (110, .lload 5, 2), (112, .lload 7, 2), (114, .ldiv, 1), (115, .goto 8, 3), (118, .iload_n 2, 1), (119, .i2l, 1), (120, .lload 7, 2), (122, .ldiv, 1), (123, .lreturn, 1)]
set_option maxRecDepth 100000 in
theorem zzk_202_1 : ∀ q ∈ zzc_202_1, decode cX7_chance q.1 = .ok q.2 := by decide +kernel
def zzc_202 : List (Nat × Instr × Nat) := zzc_202_0 ++ (zzc_202_1)
theorem zzk_202 : ∀ q ∈ zzc_202, decode cX7_chance q.1 = .ok q.2 := List.forall_mem_append.mpr ⟨zzk_202_0, zzk_202_1⟩
def zzc_203_0 : List (Nat × Instr × Nat) := [(0, .iconst 0, 1), (1, .istore_n 1, 1), (2, .iload_n 1, 1), (3, .aload_n 0, 1), (4, .getfield 85, 3), (7, .if_icmp .ge 45, 3), (10, .aload_n 0, 1), (11, .getfield 53, 3), (14, .iload_n 1, 1), (15, .aload_n 0, 1), (16, .getfield 29, 3), (19, .iload_n 1, 1), (20, .iaload, 1), (21, .iastore, 1), (22, .aload_n 0, 1), (23, .getfield 56, 3), (26, .iload_n 1, 1), (27, .aload_n 0, 1), (28, .getfield 32, 3), (31, .iload_n 1, 1), (32, .iaload, 1), (33, .iastore, 1), (34, .aload_n 0, 1), (35, .getfield 59, 3), (38, .iload_n 1, 1), (39, .aload_n 0, 1), (40, .getfield 35, 3), (43, .iload_n 1, 1), (44, .iaload, 1), (45, .iastore, 1), (46, .iinc 1 1, 3), (49, .goto (-47), 3), (52, .aload_n 0, 1), (53, .aload_n 0, 1), (54, .getfield 85, 3), (57, .putfield 62, 3), (60, .aload_n 0, 1), (61, .aload_n 0, 1), (62, .getfield 118, 3), (65, .putfield 365, 3), (68, .aload_n 0, 1), (69, .aload_n 0, 1), (70, .getfield 23, 3), (73, .putfield 368, 3), (76, .aload_n 0, 1), (77, .aload_n 0, 1), (78, .getfield 121, 3), (81, .putfield 371, 3), (84, .aload_n 0, 1), (85, .getfield 85, 3)]
set_option maxRecDepth 100000 in
theorem zzk_203_0 : ∀ q ∈ zzc_203_0, decode cX7_image q.1 = .ok q.2 := by decide +kernel
def zzc_203_1 : List (Nat × Instr × Nat) := [(88, .ireturn, 1)]
set_option maxRecDepth 100000 in
theorem zzk_203_1 : ∀ q ∈ zzc_203_1, decode cX7_image q.1 = .ok q.2 := by decide +kernel
def zzc_203 : List (Nat × Instr × Nat) := zzc_203_0 ++ (zzc_203_1)
theorem zzk_203 : ∀ q ∈ zzc_203, decode cX7_image q.1 = .ok q.2 := List.forall_mem_append.mpr ⟨zzk_203_0, zzk_203_1⟩
def zzc_204_0 : List (Nat × Instr × Nat) := [(0, .aload_n 0, 1), (1, .getfield 62, 3), (4, .iconst (-1), 1), (5, .if_icmp .ne 6, 3), (8, .bipush (-3), 2), (10, .ireturn, 1), (11, .iconst 0, 1), (12, .istore_n 1, 1), (13, .iload_n 1, 1), (14, .aload_n 0, 1), (15, .getfield 85, 3), (18, .if_icmp .ge 15, 3), (21, .aload_n 0, 1), (22, .iload_n 1, 1), (23, .iconst (-1), 1), (24, .invokevirtual 129, 3), (27, .iinc 1 1, 3), (30, .goto (-17), 3), (33, .aload_n 0, 1), (34, .aload_n 0, 1), (35, .getfield 62, 3), (38, .putfield 85, 3), (41, .iconst 0, 1), (42, .istore_n 1, 1), (43, .iload_n 1, 1), (44, .aload_n 0, 1), (45, .getfield 85, 3), (48, .if_icmp .ge 44, 3), (51, .aload_n 0, 1), (52, .getfield 29, 3), (55, .iload_n 1, 1), (56, .aload_n 0, 1), (57, .getfield 53, 3), (60, .iload_n 1, 1), (61, .iaload, 1), (62, .iastore, 1), (63, .aload_n 0, 1), (64, .getfield 32, 3), (67, .iload_n 1, 1), (68, .aload_n 0, 1), (69, .getfield 56, 3), (72, .iload_n 1, 1), (73, .iaload, 1), (74, .iastore, 1), (75, .aload_n 0, 1), (76, .iload_n 1, 1), (77, .aload_n 0, 1), (78, .getfield 59, 3), (81, .iload_n 1, 1), (82, .iaload, 1)]
set_option maxRecDepth 100000 in
theorem zzk_204_0 : ∀ q ∈ zzc_204_0, decode cX7_back q.1 = .ok q.2 := by decide +kernel
def zzc_204_1 : List (Nat × Instr × Nat) := [(83, .invokevirtual 129, 3), (86, .iinc 1 1, 3), (89, .goto (-46), 3), (92, .aload_n 0, 1), (93, .aload_n 0, 1), (94, .getfield 365, 3), (97, .putfield 118, 3), (100, .aload_n 0, 1), (101, .aload_n 0, 1), (102, .getfield 368, 3), (105, .putfield 23, 3), (108, .aload_n 0, 1), (109, .aload_n 0, 1), (110, .getfield 371, 3), (113, .putfield 121, 3), (116, .aload_n 0, 1), (117, .getfield 85, 3), (120, .ireturn, 1)]
set_option maxRecDepth 100000 in
theorem zzk_204_1 : ∀ q ∈ zzc_204_1, decode cX7_back q.1 = .ok q.2 := by decide +kernel
def zzc_204 : List (Nat × Instr × Nat) := zzc_204_0 ++ (zzc_204_1)
theorem zzk_204 : ∀ q ∈ zzc_204, decode cX7_back q.1 = .ok q.2 := List.forall_mem_append.mpr ⟨zzk_204_0, zzk_204_1⟩
def zzc_205_0 : List (Nat × Instr × Nat) := [(0, .iload_n 1, 1), (1, .i2l, 1), (2, .lconst 0, 1), (3, .ldc2_w 374, 3), (6, .invokestatic 88, 3), (9, .ifCond .ne 6, 3), (12, .bipush (-2), 2), (14, .ireturn, 1), (15, .iload_n 1, 1), (16, .iconst 1, 1), (17, .if_icmp .le 32, 3), (20, .iload_n 1, 1), (21, .iconst 2, 1), (22, .if_icmp .ne 10, 3), (25, .aload_n 0, 1), (26, .getfield 82, 3), (29, .goto 19, 3), (32, .iload_n 1, 1), (33, .iconst 3, 1), (34, .if_icmp .ne 10, 3), (37, .aload_n 0, 1), (38, .getfield 148, 3), (41, .goto 7, 3), (44, .aload_n 0, 1), (45, .getfield 121, 3), (48, .ireturn, 1), (49, .iconst 0, 1), (50, .istore_n 2, 1), (51, .iconst 0, 1), (52, .istore_n 3, 1), (53, .iload_n 3, 1), (54, .aload_n 0, 1), (55, .getfield 85, 3), (58, .if_icmp .ge 31, 3), (61, .iload_n 2, 1), (62, .iload_n 1, 1), (63, .ifCond .eq 13, 3), (66, .aload_n 0, 1), (67, .getfield 35, 3), (70, .iload_n 3, 1), (71, .iaload, 1), (72, .iconst (-1), 1), (73, .if_icmp .eq 7, 3), (76, .iconst 1, 1), (77, .goto 4, 3), (80, .iconst 0, 1), (81, .iadd, 1), (82, .istore_n 2, 1), (83, .iinc 3 1, 3), (86, .goto (-33), 3)]
set_option maxRecDepth 100000 in
theorem zzk_205_0 : ∀ q ∈ zzc_205_0, decode cX7_count q.1 = .ok q.2 := by decide +kernel
def zzc_205_1 : List (Nat × Instr × Nat) := [(89, .iload_n 2, 1), (90, .ireturn, 1)]
set_option maxRecDepth 100000 in
theorem zzk_205_1 : ∀ q ∈ zzc_205_1, decode cX7_count q.1 = .ok q.2 := by decide +kernel
def zzc_205 : List (Nat × Instr × Nat) := zzc_205_0 ++ (zzc_205_1)
theorem zzk_205 : ∀ q ∈ zzc_205, decode cX7_count q.1 = .ok q.2 := List.forall_mem_append.mpr ⟨zzk_205_0, zzk_205_1⟩
def zzc_206 : List (Nat × Instr × Nat) := [(0, .iload_n 0, 1), (1, .i2l, 1), (2, .lconst 0, 1), (3, .ldc2_w 104, 3), (6, .invokestatic 88, 3), (9, .ireturn, 1)]
set_option maxRecDepth 100000 in
theorem zzk_206 : ∀ q ∈ zzc_206, decode cX7_isSheet q.1 = .ok q.2 := by decide +kernel
def zzc_207_0 : List (Nat × Instr × Nat) := [(0, .iload_n 1, 1), (1, .invokestatic 334, 3), (4, .ifCond .eq 27, 3), (7, .iload_n 2, 1), (8, .i2l, 1), (9, .ldc2_w 376, 3), (12, .ldc2_w 284, 3), (15, .invokestatic 88, 3), (18, .ifCond .eq 13, 3), (21, .iload_n 2, 1), (22, .ifCond .lt 12, 3), (25, .iload_n 3, 1), (26, .bipush 40, 2), (28, .if_icmp .le 6, 3), (31, .bipush (-2), 2), (33, .ireturn, 1), (34, .iload_n 2, 1), (35, .ifCond .lt 10, 3), (38, .iload_n 3, 1), (39, .ifCond .ge 6, 3), (42, .bipush (-14), 2), (44, .ireturn, 1), (45, .aload_n 0, 1), (46, .getfield 65, 3), (49, .iload_n 1, 1), (50, .iload_n 2, 1), (51, .ifCond .lt 7, 3), (54, .iconst 1, 1), (55, .goto 4, 3), (58, .iconst 0, 1), (59, .bastore, 1), (60, .aload_n 0, 1), (61, .getfield 69, 3), (64, .iload_n 1, 1), (65, .iload_n 2, 1), (66, .iastore, 1), (67, .aload_n 0, 1), (68, .getfield 72, 3), (71, .iload_n 1, 1), (72, .iload_n 3, 1), (73, .iastore, 1), (74, .iconst 0, 1), (75, .istore 4, 2), (77, .iload 4, 2), (79, .iload_n 3, 1), (80, .if_icmp .ge 26, 3), (83, .iload_n 2, 1), (84, .ifCond .lt 22, 3), (87, .aload_n 0, 1), (88, .getfield 75, 3)]
set_option maxRecDepth 100000 in
theorem zzk_207_0 : ∀ q ∈ zzc_207_0, decode cX7_sheet q.1 = .ok q.2 := by decide +kernel
def zzc_207_1 : List (Nat × Instr × Nat) := [(91, .bipush 40, 2), (93, .iload_n 1, 1), (94, .imul, 1), (95, .iload 4, 2), (97, .iadd, 1), (98, .iconst 0, 1), (99, .iastore, 1), (100, .iinc 4 1, 3), (103, .goto (-26), 3), (106, .iconst 1, 1), (107, .ireturn, 1)]
set_option maxRecDepth 100000 in
theorem zzk_207_1 : ∀ q ∈ zzc_207_1, decode cX7_sheet q.1 = .ok q.2 := by decide +kernel
def zzc_207 : List (Nat × Instr × Nat) := zzc_207_0 ++ (zzc_207_1)
theorem zzk_207 : ∀ q ∈ zzc_207, decode cX7_sheet q.1 = .ok q.2 := List.forall_mem_append.mpr ⟨zzk_207_0, zzk_207_1⟩
def zzc_208_0 : List (Nat × Instr × Nat) := [(0, .iload_n 1, 1), (1, .invokestatic 334, 3), (4, .ifCond .ne 6, 3), (7, .bipush (-2), 2), (9, .ireturn, 1), (10, .aload_n 0, 1), (11, .getfield 65, 3), (14, .iload_n 1, 1), (15, .baload, 1), (16, .ifCond .ne 6, 3), (19, .bipush (-11), 2), (21, .ireturn, 1), (22, .iload_n 2, 1), (23, .i2l, 1), (24, .lconst 0, 1), (25, .aload_n 0, 1), (26, .getfield 72, 3), (29, .iload_n 1, 1), (30, .iaload, 1), (31, .iconst 1, 1), (32, .isub, 1), (33, .i2l, 1), (34, .invokestatic 88, 3), (37, .ifCond .ne 6, 3), (40, .bipush (-12), 2), (42, .ireturn, 1), (43, .aload_n 0, 1), (44, .getfield 75, 3), (47, .bipush 40, 2), (49, .iload_n 1, 1), (50, .imul, 1), (51, .iload_n 2, 1), (52, .iadd, 1), (53, .aload_n 0, 1), (54, .getfield 69, 3), (57, .iload_n 1, 1), (58, .iaload, 1), (59, .ifCond .ne 8, 3), (62, .iload_n 3, 1), (63, .i2b, 1), (64, .goto 19, 3), (67, .aload_n 0, 1), (68, .getfield 69, 3), (71, .iload_n 1, 1), (72, .iaload, 1), (73, .iconst 1, 1), (74, .if_icmp .ne 8, 3), (77, .iload_n 3, 1), (78, .i2s, 1), (79, .goto 4, 3)]
set_option maxRecDepth 100000 in
theorem zzk_208_0 : ∀ q ∈ zzc_208_0, decode cX7_cell q.1 = .ok q.2 := by decide +kernel
def zzc_208_1 : List (Nat × Instr × Nat) := [(82, .iload_n 3, 1), (83, .iastore, 1), (84, .iconst 1, 1), (85, .ireturn, 1)]
set_option maxRecDepth 100000 in
theorem zzk_208_1 : ∀ q ∈ zzc_208_1, decode cX7_cell q.1 = .ok q.2 := by decide +kernel
def zzc_208 : List (Nat × Instr × Nat) := zzc_208_0 ++ (zzc_208_1)
theorem zzk_208 : ∀ q ∈ zzc_208, decode cX7_cell q.1 = .ok q.2 := List.forall_mem_append.mpr ⟨zzk_208_0, zzk_208_1⟩
def zzc_209_0 : List (Nat × Instr × Nat) := [(0, .iload_n 1, 1), (1, .invokestatic 334, 3), (4, .ifCond .eq 10, 3), (7, .iload_n 3, 1), (8, .invokestatic 334, 3), (11, .ifCond .ne 6, 3), (14, .bipush (-2), 2), (16, .ireturn, 1), (17, .aload_n 0, 1), (18, .getfield 65, 3), (21, .iload_n 1, 1), (22, .baload, 1), (23, .ifCond .eq 12, 3), (26, .aload_n 0, 1), (27, .getfield 65, 3), (30, .iload_n 3, 1), (31, .baload, 1), (32, .ifCond .ne 6, 3), (35, .bipush (-11), 2), (37, .ireturn, 1), (38, .aload_n 0, 1), (39, .getfield 69, 3), (42, .iload_n 1, 1), (43, .iaload, 1), (44, .aload_n 0, 1), (45, .getfield 69, 3), (48, .iload_n 3, 1), (49, .iaload, 1), (50, .if_icmp .eq 6, 3), (53, .bipush (-13), 2), (55, .ireturn, 1), (56, .iload 5, 2), (58, .ifCond .lt 39, 3), (61, .iload_n 2, 1), (62, .ifCond .lt 35, 3), (65, .iload 4, 2), (67, .ifCond .lt 30, 3), (70, .iload_n 2, 1), (71, .aload_n 0, 1), (72, .getfield 72, 3), (75, .iload_n 1, 1), (76, .iaload, 1), (77, .iload 5, 2), (79, .isub, 1), (80, .if_icmp .gt 17, 3), (83, .iload 4, 2), (85, .aload_n 0, 1), (86, .getfield 72, 3), (89, .iload_n 3, 1), (90, .iaload, 1)]
set_option maxRecDepth 100000 in
theorem zzk_209_0 : ∀ q ∈ zzc_209_0, decode cX7_copy q.1 = .ok q.2 := by decide +kernel
def zzc_209_1 : List (Nat × Instr × Nat) := [(91, .iload 5, 2), (93, .isub, 1), (94, .if_icmp .le 6, 3), (97, .bipush (-12), 2), (99, .ireturn, 1), (100, .iload_n 1, 1), (101, .iload_n 3, 1), (102, .if_icmp .ne 13, 3), (105, .iload_n 2, 1), (106, .iload 4, 2), (108, .if_icmp .ge 7, 3), (111, .iconst 1, 1), (112, .goto 4, 3), (115, .iconst 0, 1), (116, .istore 6, 2), (118, .iconst 0, 1), (119, .istore 7, 2), (121, .iload 7, 2), (123, .iload 5, 2), (125, .if_icmp .ge 57, 3), (128, .iload 6, 2), (130, .ifCond .eq 13, 3), (133, .iload 5, 2), (135, .iconst 1, 1), (136, .isub, 1), (137, .iload 7, 2), (139, .isub, 1), (140, .goto 5, 3), (143, .iload 7, 2), (145, .istore 8, 2), (147, .aload_n 0, 1), (148, .getfield 75, 3), (151, .bipush 40, 2), (153, .iload_n 3, 1), (154, .imul, 1), (155, .iload 4, 2), (157, .iadd, 1), (158, .iload 8, 2), (160, .iadd, 1), (161, .aload_n 0, 1), (162, .getfield 75, 3), (165, .bipush 40, 2), (167, .iload_n 1, 1), (168, .imul, 1), (169, .iload_n 2, 1), (170, .iadd, 1), (171, .iload 8, 2), (173, .iadd, 1), (174, .iaload, 1), (175, .iastore, 1)]
set_option maxRecDepth 100000 in
theorem zzk_209_1 : ∀ q ∈ zzc_209_1, decode cX7_copy q.1 = .ok q.2 := by decide +kernel
def zzc_209_2 : List (Nat × Instr × Nat) := [(176, .iinc 7 1, 3), (179, .goto (-58), 3), (182, .iload 5, 2), (184, .ireturn, 1)]
set_option maxRecDepth 100000 in
theorem zzk_209_2 : ∀ q ∈ zzc_209_2, decode cX7_copy q.1 = .ok q.2 := by decide +kernel
def zzc_209 : List (Nat × Instr × Nat) := zzc_209_0 ++ (zzc_209_1 ++ (zzc_209_2))
theorem zzk_209 : ∀ q ∈ zzc_209, decode cX7_copy q.1 = .ok q.2 := List.forall_mem_append.mpr ⟨zzk_209_0, List.forall_mem_append.mpr ⟨zzk_209_1, zzk_209_2⟩⟩
def zzc_210_0 : List (Nat × Instr × Nat) := [(0, .iload_n 1, 1), (1, .invokestatic 334, 3), (4, .ifCond .eq 28, 3), (7, .iload_n 2, 1), (8, .i2l, 1), (9, .lconst 0, 1), (10, .ldc2_w 284, 3), (13, .invokestatic 88, 3), (16, .ifCond .eq 16, 3), (19, .iload 4, 2), (21, .i2l, 1), (22, .lconst 0, 1), (23, .ldc2_w 378, 3), (26, .invokestatic 88, 3), (29, .ifCond .ne 6, 3), (32, .bipush (-2), 2), (34, .ireturn, 1), (35, .aload_n 0, 1), (36, .getfield 65, 3), (39, .iload_n 1, 1), (40, .baload, 1), (41, .ifCond .eq 16, 3), (44, .aload_n 0, 1), (45, .getfield 69, 3), (48, .iload_n 1, 1), (49, .iaload, 1), (50, .iload_n 2, 1), (51, .if_icmp .eq 6, 3), (54, .bipush (-13), 2), (56, .ireturn, 1), (57, .aload_n 0, 1), (58, .getfield 65, 3), (61, .iload_n 1, 1), (62, .baload, 1), (63, .ifCond .ne 6, 3), (66, .bipush (-11), 2), (68, .ireturn, 1), (69, .iconst 0, 1), (70, .istore 5, 2), (72, .iconst 0, 1), (73, .istore 6, 2), (75, .iload 6, 2), (77, .iload 4, 2), (79, .if_icmp .ge 79, 3), (82, .iload_n 3, 1), (83, .ifCond .lt 20, 3), (86, .iload_n 3, 1), (87, .aload_n 0, 1), (88, .getfield 72, 3), (91, .iload_n 1, 1)]
set_option maxRecDepth 100000 in
theorem zzk_210_0 : ∀ q ∈ zzc_210_0, decode cX7_passengers q.1 = .ok q.2 := by decide +kernel
def zzc_210_1 : List (Nat × Instr × Nat) := [(92, .iaload, 1), (93, .iconst 2, 1), (94, .iload 6, 2), (96, .imul, 1), (97, .isub, 1), (98, .iconst 2, 1), (99, .isub, 1), (100, .if_icmp .le 6, 3), (103, .bipush (-12), 2), (105, .ireturn, 1), (106, .bipush 40, 2), (108, .iload_n 1, 1), (109, .imul, 1), (110, .iload_n 3, 1), (111, .iadd, 1), (112, .iconst 2, 1), (113, .iload 6, 2), (115, .imul, 1), (116, .iadd, 1), (117, .istore 7, 2), (119, .iload 5, 2), (121, .aload_n 0, 1), (122, .aload_n 0, 1), (123, .getfield 75, 3), (126, .iload 7, 2), (128, .iaload, 1), (129, .aload_n 0, 1), (130, .getfield 75, 3), (133, .iload 7, 2), (135, .iconst 1, 1), (136, .iadd, 1), (137, .iaload, 1), (138, .invokevirtual 380, 3), (141, .ifCond .lt 7, 3), (144, .iconst 1, 1), (145, .goto 4, 3), (148, .iconst 0, 1), (149, .iadd, 1), (150, .istore 5, 2), (152, .iinc 6 1, 3), (155, .goto (-80), 3), (158, .iload 5, 2), (160, .ireturn, 1)]
set_option maxRecDepth 100000 in
theorem zzk_210_1 : ∀ q ∈ zzc_210_1, decode cX7_passengers q.1 = .ok q.2 := by decide +kernel
def zzc_210 : List (Nat × Instr × Nat) := zzc_210_0 ++ (zzc_210_1)
theorem zzk_210 : ∀ q ∈ zzc_210, decode cX7_passengers q.1 = .ok q.2 := List.forall_mem_append.mpr ⟨zzk_210_0, zzk_210_1⟩
end
section
/-! the code of each method, read off the class files (written by wip/whole/gen1.py) -/
def zzc_211 : List (Nat × Instr × Nat) := [(0, .iload_n 0, 1), (1, .ifCond .ne 7, 3), (4, .iconst (-1), 1), (5, .goto 22, 3), (8, .iload_n 0, 1), (9, .iconst 3, 1), (10, .if_icmp .ne 7, 3), (13, .iconst 1, 1), (14, .goto 13, 3), (17, .iload_n 0, 1), (18, .iconst 4, 1), (19, .if_icmp .ne 7, 3), (22, .iconst 2, 1), (23, .goto 4, 3), (26, .iconst 0, 1), (27, .ireturn, 1)]
set_option maxRecDepth 100000 in
theorem zzk_211 : ∀ q ∈ zzc_211, decode cX7_over q.1 = .ok q.2 := by decide +kernel
def zzc_212 : List (Nat × Instr × Nat) := [(0, .iload_n 2, 1), (1, .i2l, 1), (2, .lconst 0, 1), (3, .ldc2_w 124, 3), (6, .invokestatic 88, 3), (9, .ifCond .ne 6, 3), (12, .bipush (-2), 2), (14, .ireturn, 1), (15, .aload_n 0, 1), (16, .iload_n 1, 1), (17, .invokevirtual 94, 3), (20, .ifCond .ne 6, 3), (23, .bipush (-11), 2), (25, .ireturn, 1), (26, .aload_n 0, 1), (27, .getfield 26, 3), (30, .iload_n 1, 1), (31, .iaload, 1), (32, .istore_n 3, 1), (33, .iload_n 3, 1), (34, .iconst (-1), 1), (35, .if_icmp .eq 16, 3), (38, .iload_n 3, 1), (39, .iload_n 2, 1), (40, .if_icmp .eq 11, 3), (43, .iload_n 3, 1), (44, .invokestatic 383, 3), (47, .istore_n 3, 1), (48, .goto (-15), 3), (51, .iload_n 3, 1), (52, .iload_n 2, 1), (53, .if_icmp .ne 12, 3), (56, .aload_n 0, 1), (57, .getfield 29, 3), (60, .iload_n 1, 1), (61, .iaload, 1), (62, .goto 5, 3), (65, .bipush (-13), 2), (67, .ireturn, 1)]
set_option maxRecDepth 100000 in
theorem zzk_212 : ∀ q ∈ zzc_212, decode cX7_taken q.1 = .ok q.2 := by decide +kernel
def zzc_213_0 : List (Nat × Instr × Nat) := [(0, .new 7, 3), (3, .dup, 1), (4, .invokespecial 9, 3), (7, .astore_n 1, 1), (8, .new 10, 3), (11, .dup, 1), (12, .invokespecial 12, 3), (15, .astore_n 2, 1), (16, .iconst 0, 1), (17, .istore_n 3, 1), (18, .iload_n 3, 1), (19, .aload_n 0, 1), (20, .arraylength, 1), (21, .bipush 6, 2), (23, .isub, 1), (24, .if_icmp .gt 1007, 3), (27, .aload_n 0, 1), (28, .iload_n 3, 1), (29, .iaload, 1), (30, .bipush 31, 2), (32, .iand, 1), (33, .tableswitch 992 0 27 #[127, 170, 203, 236, 269, 292, 315, 328, 351, 374, 407, 440, 463, 486, 519, 552, 585, 618, 641, 664, 708, 721, 734, 757, 800, 843, 906, 959], 127), (160, .aload_n 1, 1), (161, .aload_n 0, 1), (162, .iload_n 3, 1), (163, .iconst 1, 1), (164, .iadd, 1), (165, .iaload, 1), (166, .aload_n 0, 1), (167, .iload_n 3, 1), (168, .iconst 2, 1), (169, .iadd, 1), (170, .iaload, 1), (171, .aload_n 0, 1), (172, .iload_n 3, 1), (173, .iconst 3, 1), (174, .iadd, 1), (175, .iaload, 1), (176, .invokevirtual 13, 3), (179, .aload_n 2, 1), (180, .aload_n 0, 1), (181, .iload_n 3, 1), (182, .iconst 1, 1), (183, .iadd, 1), (184, .iaload, 1), (185, .aload_n 0, 1), (186, .iload_n 3, 1), (187, .iconst 2, 1), (188, .iadd, 1), (189, .iaload, 1)]
set_option maxRecDepth 100000 in
theorem zzk_213_0 : ∀ q ∈ zzc_213_0, decode cL_law q.1 = .ok q.2 := by decide +kernel
def zzc_213_1 : List (Nat × Instr × Nat) := [(190, .aload_n 0, 1), (191, .iload_n 3, 1), (192, .iconst 3, 1), (193, .iadd, 1), (194, .iaload, 1), (195, .invokevirtual 17, 3), (198, .if_icmp .eq 827, 3), (201, .iconst 0, 1), (202, .ireturn, 1), (203, .aload_n 1, 1), (204, .aload_n 0, 1), (205, .iload_n 3, 1), (206, .iconst 1, 1), (207, .iadd, 1), (208, .iaload, 1), (209, .aload_n 0, 1), (210, .iload_n 3, 1), (211, .iconst 2, 1), (212, .iadd, 1), (213, .iaload, 1), (214, .invokevirtual 18, 3), (217, .aload_n 2, 1), (218, .aload_n 0, 1), (219, .iload_n 3, 1), (220, .iconst 1, 1), (221, .iadd, 1), (222, .iaload, 1), (223, .aload_n 0, 1), (224, .iload_n 3, 1), (225, .iconst 2, 1), (226, .iadd, 1), (227, .iaload, 1), (228, .invokevirtual 22, 3), (231, .if_icmp .eq 794, 3), (234, .iconst 0, 1), (235, .ireturn, 1), (236, .aload_n 1, 1), (237, .aload_n 0, 1), (238, .iload_n 3, 1), (239, .iconst 1, 1), (240, .iadd, 1), (241, .iaload, 1), (242, .aload_n 0, 1), (243, .iload_n 3, 1), (244, .iconst 2, 1), (245, .iadd, 1), (246, .iaload, 1), (247, .invokevirtual 23, 3), (250, .aload_n 2, 1), (251, .aload_n 0, 1)]
set_option maxRecDepth 100000 in
theorem zzk_213_1 : ∀ q ∈ zzc_213_1, decode cL_law q.1 = .ok q.2 := by decide +kernel
def zzc_213_2 : List (Nat × Instr × Nat) := [(252, .iload_n 3, 1), (253, .iconst 1, 1), (254, .iadd, 1), (255, .iaload, 1), (256, .aload_n 0, 1), (257, .iload_n 3, 1), (258, .iconst 2, 1), (259, .iadd, 1), (260, .iaload, 1), (261, .invokevirtual 26, 3), (264, .if_icmp .eq 761, 3), (267, .iconst 0, 1), (268, .ireturn, 1), (269, .aload_n 1, 1), (270, .aload_n 0, 1), (271, .iload_n 3, 1), (272, .iconst 1, 1), (273, .iadd, 1), (274, .iaload, 1), (275, .aload_n 0, 1), (276, .iload_n 3, 1), (277, .iconst 2, 1), (278, .iadd, 1), (279, .iaload, 1), (280, .invokevirtual 27, 3), (283, .aload_n 2, 1), (284, .aload_n 0, 1), (285, .iload_n 3, 1), (286, .iconst 1, 1), (287, .iadd, 1), (288, .iaload, 1), (289, .aload_n 0, 1), (290, .iload_n 3, 1), (291, .iconst 2, 1), (292, .iadd, 1), (293, .iaload, 1), (294, .invokevirtual 30, 3), (297, .if_icmp .eq 728, 3), (300, .iconst 0, 1), (301, .ireturn, 1), (302, .aload_n 1, 1), (303, .aload_n 0, 1), (304, .iload_n 3, 1), (305, .iconst 1, 1), (306, .iadd, 1), (307, .iaload, 1), (308, .invokevirtual 31, 3), (311, .aload_n 2, 1), (312, .aload_n 0, 1), (313, .iload_n 3, 1)]
set_option maxRecDepth 100000 in
theorem zzk_213_2 : ∀ q ∈ zzc_213_2, decode cL_law q.1 = .ok q.2 := by decide +kernel
def zzc_213_3 : List (Nat × Instr × Nat) := [(314, .iconst 1, 1), (315, .iadd, 1), (316, .iaload, 1), (317, .invokevirtual 35, 3), (320, .if_icmp .eq 705, 3), (323, .iconst 0, 1), (324, .ireturn, 1), (325, .aload_n 1, 1), (326, .aload_n 0, 1), (327, .iload_n 3, 1), (328, .iconst 1, 1), (329, .iadd, 1), (330, .iaload, 1), (331, .invokevirtual 36, 3), (334, .aload_n 2, 1), (335, .aload_n 0, 1), (336, .iload_n 3, 1), (337, .iconst 1, 1), (338, .iadd, 1), (339, .iaload, 1), (340, .invokevirtual 39, 3), (343, .if_icmp .eq 682, 3), (346, .iconst 0, 1), (347, .ireturn, 1), (348, .aload_n 1, 1), (349, .invokevirtual 40, 3), (352, .aload_n 2, 1), (353, .invokevirtual 44, 3), (356, .if_icmp .eq 669, 3), (359, .iconst 0, 1), (360, .ireturn, 1), (361, .aload_n 1, 1), (362, .aload_n 0, 1), (363, .iload_n 3, 1), (364, .iconst 1, 1), (365, .iadd, 1), (366, .iaload, 1), (367, .invokevirtual 45, 3), (370, .aload_n 2, 1), (371, .aload_n 0, 1), (372, .iload_n 3, 1), (373, .iconst 1, 1), (374, .iadd, 1), (375, .iaload, 1), (376, .invokevirtual 48, 3), (379, .if_icmp .eq 646, 3), (382, .iconst 0, 1), (383, .ireturn, 1), (384, .aload_n 1, 1), (385, .aload_n 0, 1)]
set_option maxRecDepth 100000 in
theorem zzk_213_3 : ∀ q ∈ zzc_213_3, decode cL_law q.1 = .ok q.2 := by decide +kernel
def zzc_213_4 : List (Nat × Instr × Nat) := [(386, .iload_n 3, 1), (387, .iconst 1, 1), (388, .iadd, 1), (389, .iaload, 1), (390, .invokevirtual 49, 3), (393, .aload_n 2, 1), (394, .aload_n 0, 1), (395, .iload_n 3, 1), (396, .iconst 1, 1), (397, .iadd, 1), (398, .iaload, 1), (399, .invokevirtual 52, 3), (402, .if_icmp .eq 623, 3), (405, .iconst 0, 1), (406, .ireturn, 1), (407, .aload_n 1, 1), (408, .aload_n 0, 1), (409, .iload_n 3, 1), (410, .iconst 1, 1), (411, .iadd, 1), (412, .iaload, 1), (413, .aload_n 0, 1), (414, .iload_n 3, 1), (415, .iconst 2, 1), (416, .iadd, 1), (417, .iaload, 1), (418, .invokevirtual 53, 3), (421, .aload_n 2, 1), (422, .aload_n 0, 1), (423, .iload_n 3, 1), (424, .iconst 1, 1), (425, .iadd, 1), (426, .iaload, 1), (427, .aload_n 0, 1), (428, .iload_n 3, 1), (429, .iconst 2, 1), (430, .iadd, 1), (431, .iaload, 1), (432, .invokevirtual 56, 3), (435, .if_icmp .eq 590, 3), (438, .iconst 0, 1), (439, .ireturn, 1), (440, .aload_n 1, 1), (441, .aload_n 0, 1), (442, .iload_n 3, 1), (443, .iconst 1, 1), (444, .iadd, 1), (445, .iaload, 1), (446, .aload_n 0, 1), (447, .iload_n 3, 1)]
set_option maxRecDepth 100000 in
theorem zzk_213_4 : ∀ q ∈ zzc_213_4, decode cL_law q.1 = .ok q.2 := by decide +kernel
def zzc_213_5 : List (Nat × Instr × Nat) := [(448, .iconst 2, 1), (449, .iadd, 1), (450, .iaload, 1), (451, .invokevirtual 57, 3), (454, .aload_n 2, 1), (455, .aload_n 0, 1), (456, .iload_n 3, 1), (457, .iconst 1, 1), (458, .iadd, 1), (459, .iaload, 1), (460, .aload_n 0, 1), (461, .iload_n 3, 1), (462, .iconst 2, 1), (463, .iadd, 1), (464, .iaload, 1), (465, .invokevirtual 60, 3), (468, .if_icmp .eq 557, 3), (471, .iconst 0, 1), (472, .ireturn, 1), (473, .aload_n 1, 1), (474, .aload_n 0, 1), (475, .iload_n 3, 1), (476, .iconst 1, 1), (477, .iadd, 1), (478, .iaload, 1), (479, .invokevirtual 61, 3), (482, .aload_n 2, 1), (483, .aload_n 0, 1), (484, .iload_n 3, 1), (485, .iconst 1, 1), (486, .iadd, 1), (487, .iaload, 1), (488, .invokevirtual 64, 3), (491, .if_icmp .eq 534, 3), (494, .iconst 0, 1), (495, .ireturn, 1), (496, .aload_n 1, 1), (497, .aload_n 0, 1), (498, .iload_n 3, 1), (499, .iconst 1, 1), (500, .iadd, 1), (501, .iaload, 1), (502, .invokevirtual 65, 3), (505, .aload_n 2, 1), (506, .aload_n 0, 1), (507, .iload_n 3, 1), (508, .iconst 1, 1), (509, .iadd, 1), (510, .iaload, 1), (511, .invokevirtual 68, 3)]
set_option maxRecDepth 100000 in
theorem zzk_213_5 : ∀ q ∈ zzc_213_5, decode cL_law q.1 = .ok q.2 := by decide +kernel
def zzc_213_6 : List (Nat × Instr × Nat) := [(514, .if_icmp .eq 511, 3), (517, .iconst 0, 1), (518, .ireturn, 1), (519, .aload_n 1, 1), (520, .aload_n 0, 1), (521, .iload_n 3, 1), (522, .iconst 1, 1), (523, .iadd, 1), (524, .iaload, 1), (525, .aload_n 0, 1), (526, .iload_n 3, 1), (527, .iconst 2, 1), (528, .iadd, 1), (529, .iaload, 1), (530, .invokevirtual 69, 3), (533, .aload_n 2, 1), (534, .aload_n 0, 1), (535, .iload_n 3, 1), (536, .iconst 1, 1), (537, .iadd, 1), (538, .iaload, 1), (539, .aload_n 0, 1), (540, .iload_n 3, 1), (541, .iconst 2, 1), (542, .iadd, 1), (543, .iaload, 1), (544, .invokevirtual 72, 3), (547, .if_icmp .eq 478, 3), (550, .iconst 0, 1), (551, .ireturn, 1), (552, .aload_n 1, 1), (553, .aload_n 0, 1), (554, .iload_n 3, 1), (555, .iconst 1, 1), (556, .iadd, 1), (557, .iaload, 1), (558, .aload_n 0, 1), (559, .iload_n 3, 1), (560, .iconst 2, 1), (561, .iadd, 1), (562, .iaload, 1), (563, .invokevirtual 73, 3), (566, .aload_n 2, 1), (567, .aload_n 0, 1), (568, .iload_n 3, 1), (569, .iconst 1, 1), (570, .iadd, 1), (571, .iaload, 1), (572, .aload_n 0, 1), (573, .iload_n 3, 1)]
set_option maxRecDepth 100000 in
theorem zzk_213_6 : ∀ q ∈ zzc_213_6, decode cL_law q.1 = .ok q.2 := by decide +kernel
def zzc_213_7 : List (Nat × Instr × Nat) := [(574, .iconst 2, 1), (575, .iadd, 1), (576, .iaload, 1), (577, .invokevirtual 76, 3), (580, .if_icmp .eq 445, 3), (583, .iconst 0, 1), (584, .ireturn, 1), (585, .aload_n 1, 1), (586, .aload_n 0, 1), (587, .iload_n 3, 1), (588, .iconst 1, 1), (589, .iadd, 1), (590, .iaload, 1), (591, .aload_n 0, 1), (592, .iload_n 3, 1), (593, .iconst 2, 1), (594, .iadd, 1), (595, .iaload, 1), (596, .invokevirtual 77, 3), (599, .aload_n 2, 1), (600, .aload_n 0, 1), (601, .iload_n 3, 1), (602, .iconst 1, 1), (603, .iadd, 1), (604, .iaload, 1), (605, .aload_n 0, 1), (606, .iload_n 3, 1), (607, .iconst 2, 1), (608, .iadd, 1), (609, .iaload, 1), (610, .invokevirtual 80, 3), (613, .if_icmp .eq 412, 3), (616, .iconst 0, 1), (617, .ireturn, 1), (618, .aload_n 1, 1), (619, .aload_n 0, 1), (620, .iload_n 3, 1), (621, .iconst 1, 1), (622, .iadd, 1), (623, .iaload, 1), (624, .aload_n 0, 1), (625, .iload_n 3, 1), (626, .iconst 2, 1), (627, .iadd, 1), (628, .iaload, 1), (629, .invokevirtual 81, 3), (632, .aload_n 2, 1), (633, .aload_n 0, 1), (634, .iload_n 3, 1), (635, .iconst 1, 1)]
set_option maxRecDepth 100000 in
theorem zzk_213_7 : ∀ q ∈ zzc_213_7, decode cL_law q.1 = .ok q.2 := by decide +kernel
def zzc_213_8 : List (Nat × Instr × Nat) := [(636, .iadd, 1), (637, .iaload, 1), (638, .aload_n 0, 1), (639, .iload_n 3, 1), (640, .iconst 2, 1), (641, .iadd, 1), (642, .iaload, 1), (643, .invokevirtual 84, 3), (646, .if_icmp .eq 379, 3), (649, .iconst 0, 1), (650, .ireturn, 1), (651, .aload_n 1, 1), (652, .aload_n 0, 1), (653, .iload_n 3, 1), (654, .iconst 1, 1), (655, .iadd, 1), (656, .iaload, 1), (657, .invokevirtual 85, 3), (660, .aload_n 2, 1), (661, .aload_n 0, 1), (662, .iload_n 3, 1), (663, .iconst 1, 1), (664, .iadd, 1), (665, .iaload, 1), (666, .invokevirtual 88, 3), (669, .if_icmp .eq 356, 3), (672, .iconst 0, 1), (673, .ireturn, 1), (674, .aload_n 1, 1), (675, .aload_n 0, 1), (676, .iload_n 3, 1), (677, .iconst 1, 1), (678, .iadd, 1), (679, .iaload, 1), (680, .invokevirtual 89, 3), (683, .aload_n 2, 1), (684, .aload_n 0, 1), (685, .iload_n 3, 1), (686, .iconst 1, 1), (687, .iadd, 1), (688, .iaload, 1), (689, .invokevirtual 92, 3), (692, .if_icmp .eq 333, 3), (695, .iconst 0, 1), (696, .ireturn, 1), (697, .aload_n 1, 1), (698, .aload_n 0, 1), (699, .iload_n 3, 1), (700, .iconst 1, 1), (701, .iadd, 1)]
set_option maxRecDepth 100000 in
theorem zzk_213_8 : ∀ q ∈ zzc_213_8, decode cL_law q.1 = .ok q.2 := by decide +kernel
def zzc_213_9 : List (Nat × Instr × Nat) := [(702, .iaload, 1), (703, .aload_n 0, 1), (704, .iload_n 3, 1), (705, .iconst 2, 1), (706, .iadd, 1), (707, .iaload, 1), (708, .aload_n 0, 1), (709, .iload_n 3, 1), (710, .iconst 3, 1), (711, .iadd, 1), (712, .iaload, 1), (713, .invokevirtual 93, 3), (716, .aload_n 2, 1), (717, .aload_n 0, 1), (718, .iload_n 3, 1), (719, .iconst 1, 1), (720, .iadd, 1), (721, .iaload, 1), (722, .aload_n 0, 1), (723, .iload_n 3, 1), (724, .iconst 2, 1), (725, .iadd, 1), (726, .iaload, 1), (727, .aload_n 0, 1), (728, .iload_n 3, 1), (729, .iconst 3, 1), (730, .iadd, 1), (731, .iaload, 1), (732, .invokevirtual 97, 3), (735, .lcmp, 1), (736, .ifCond .eq 289, 3), (739, .iconst 0, 1), (740, .ireturn, 1), (741, .aload_n 1, 1), (742, .invokevirtual 98, 3), (745, .aload_n 2, 1), (746, .invokevirtual 101, 3), (749, .if_icmp .eq 276, 3), (752, .iconst 0, 1), (753, .ireturn, 1), (754, .aload_n 1, 1), (755, .invokevirtual 102, 3), (758, .aload_n 2, 1), (759, .invokevirtual 105, 3), (762, .if_icmp .eq 263, 3), (765, .iconst 0, 1), (766, .ireturn, 1), (767, .aload_n 1, 1), (768, .aload_n 0, 1), (769, .iload_n 3, 1)]
set_option maxRecDepth 100000 in
theorem zzk_213_9 : ∀ q ∈ zzc_213_9, decode cL_law q.1 = .ok q.2 := by decide +kernel
def zzc_213_10 : List (Nat × Instr × Nat) := [(770, .iconst 1, 1), (771, .iadd, 1), (772, .iaload, 1), (773, .invokevirtual 106, 3), (776, .aload_n 2, 1), (777, .aload_n 0, 1), (778, .iload_n 3, 1), (779, .iconst 1, 1), (780, .iadd, 1), (781, .iaload, 1), (782, .invokevirtual 109, 3), (785, .if_icmp .eq 240, 3), (788, .iconst 0, 1), (789, .ireturn, 1), (790, .aload_n 1, 1), (791, .aload_n 0, 1), (792, .iload_n 3, 1), (793, .iconst 1, 1), (794, .iadd, 1), (795, .iaload, 1), (796, .aload_n 0, 1), (797, .iload_n 3, 1), (798, .iconst 2, 1), (799, .iadd, 1), (800, .iaload, 1), (801, .aload_n 0, 1), (802, .iload_n 3, 1), (803, .iconst 3, 1), (804, .iadd, 1), (805, .iaload, 1), (806, .invokevirtual 110, 3), (809, .aload_n 2, 1), (810, .aload_n 0, 1), (811, .iload_n 3, 1), (812, .iconst 1, 1), (813, .iadd, 1), (814, .iaload, 1), (815, .aload_n 0, 1), (816, .iload_n 3, 1), (817, .iconst 2, 1), (818, .iadd, 1), (819, .iaload, 1), (820, .aload_n 0, 1), (821, .iload_n 3, 1), (822, .iconst 3, 1), (823, .iadd, 1), (824, .iaload, 1), (825, .invokevirtual 113, 3), (828, .if_icmp .eq 197, 3), (831, .iconst 0, 1)]
set_option maxRecDepth 100000 in
theorem zzk_213_10 : ∀ q ∈ zzc_213_10, decode cL_law q.1 = .ok q.2 := by decide +kernel
def zzc_213_11 : List (Nat × Instr × Nat) := [(832, .ireturn, 1), (833, .aload_n 1, 1), (834, .aload_n 0, 1), (835, .iload_n 3, 1), (836, .iconst 1, 1), (837, .iadd, 1), (838, .iaload, 1), (839, .aload_n 0, 1), (840, .iload_n 3, 1), (841, .iconst 2, 1), (842, .iadd, 1), (843, .iaload, 1), (844, .aload_n 0, 1), (845, .iload_n 3, 1), (846, .iconst 3, 1), (847, .iadd, 1), (848, .iaload, 1), (849, .invokevirtual 114, 3), (852, .aload_n 2, 1), (853, .aload_n 0, 1), (854, .iload_n 3, 1), (855, .iconst 1, 1), (856, .iadd, 1), (857, .iaload, 1), (858, .aload_n 0, 1), (859, .iload_n 3, 1), (860, .iconst 2, 1), (861, .iadd, 1), (862, .iaload, 1), (863, .aload_n 0, 1), (864, .iload_n 3, 1), (865, .iconst 3, 1), (866, .iadd, 1), (867, .iaload, 1), (868, .invokevirtual 117, 3), (871, .if_icmp .eq 154, 3), (874, .iconst 0, 1), (875, .ireturn, 1), (876, .aload_n 1, 1), (877, .aload_n 0, 1), (878, .iload_n 3, 1), (879, .iconst 1, 1), (880, .iadd, 1), (881, .iaload, 1), (882, .aload_n 0, 1), (883, .iload_n 3, 1), (884, .iconst 2, 1), (885, .iadd, 1), (886, .iaload, 1), (887, .aload_n 0, 1)]
set_option maxRecDepth 100000 in
theorem zzk_213_11 : ∀ q ∈ zzc_213_11, decode cL_law q.1 = .ok q.2 := by decide +kernel
def zzc_213_12 : List (Nat × Instr × Nat) := [(888, .iload_n 3, 1), (889, .iconst 3, 1), (890, .iadd, 1), (891, .iaload, 1), (892, .aload_n 0, 1), (893, .iload_n 3, 1), (894, .iconst 4, 1), (895, .iadd, 1), (896, .iaload, 1), (897, .aload_n 0, 1), (898, .iload_n 3, 1), (899, .iconst 5, 1), (900, .iadd, 1), (901, .iaload, 1), (902, .invokevirtual 118, 3), (905, .aload_n 2, 1), (906, .aload_n 0, 1), (907, .iload_n 3, 1), (908, .iconst 1, 1), (909, .iadd, 1), (910, .iaload, 1), (911, .aload_n 0, 1), (912, .iload_n 3, 1), (913, .iconst 2, 1), (914, .iadd, 1), (915, .iaload, 1), (916, .aload_n 0, 1), (917, .iload_n 3, 1), (918, .iconst 3, 1), (919, .iadd, 1), (920, .iaload, 1), (921, .aload_n 0, 1), (922, .iload_n 3, 1), (923, .iconst 4, 1), (924, .iadd, 1), (925, .iaload, 1), (926, .aload_n 0, 1), (927, .iload_n 3, 1), (928, .iconst 5, 1), (929, .iadd, 1), (930, .iaload, 1), (931, .invokevirtual 122, 3), (934, .if_icmp .eq 91, 3), (937, .iconst 0, 1), (938, .ireturn, 1), (939, .aload_n 1, 1), (940, .aload_n 0, 1), (941, .iload_n 3, 1), (942, .iconst 1, 1), (943, .iadd, 1)]
set_option maxRecDepth 100000 in
theorem zzk_213_12 : ∀ q ∈ zzc_213_12, decode cL_law q.1 = .ok q.2 := by decide +kernel
def zzc_213_13 : List (Nat × Instr × Nat) := [(944, .iaload, 1), (945, .aload_n 0, 1), (946, .iload_n 3, 1), (947, .iconst 2, 1), (948, .iadd, 1), (949, .iaload, 1), (950, .aload_n 0, 1), (951, .iload_n 3, 1), (952, .iconst 3, 1), (953, .iadd, 1), (954, .iaload, 1), (955, .aload_n 0, 1), (956, .iload_n 3, 1), (957, .iconst 4, 1), (958, .iadd, 1), (959, .iaload, 1), (960, .invokevirtual 123, 3), (963, .aload_n 2, 1), (964, .aload_n 0, 1), (965, .iload_n 3, 1), (966, .iconst 1, 1), (967, .iadd, 1), (968, .iaload, 1), (969, .aload_n 0, 1), (970, .iload_n 3, 1), (971, .iconst 2, 1), (972, .iadd, 1), (973, .iaload, 1), (974, .aload_n 0, 1), (975, .iload_n 3, 1), (976, .iconst 3, 1), (977, .iadd, 1), (978, .iaload, 1), (979, .aload_n 0, 1), (980, .iload_n 3, 1), (981, .iconst 4, 1), (982, .iadd, 1), (983, .iaload, 1), (984, .invokevirtual 127, 3), (987, .if_icmp .eq 38, 3), (990, .iconst 0, 1), (991, .ireturn, 1), (992, .aload_n 1, 1), (993, .aload_n 0, 1), (994, .iload_n 3, 1), (995, .iconst 1, 1), (996, .iadd, 1), (997, .iaload, 1), (998, .aload_n 0, 1), (999, .iload_n 3, 1)]
set_option maxRecDepth 100000 in
theorem zzk_213_13 : ∀ q ∈ zzc_213_13, decode cL_law q.1 = .ok q.2 := by decide +kernel
def zzc_213_14 : List (Nat × Instr × Nat) := [(1000, .iconst 2, 1), (1001, .iadd, 1), (1002, .iaload, 1), (1003, .invokevirtual 128, 3), (1006, .aload_n 2, 1), (1007, .aload_n 0, 1), (1008, .iload_n 3, 1), (1009, .iconst 1, 1), (1010, .iadd, 1), (1011, .iaload, 1), (1012, .aload_n 0, 1), (1013, .iload_n 3, 1), (1014, .iconst 2, 1), (1015, .iadd, 1), (1016, .iaload, 1), (1017, .invokevirtual 131, 3), (1020, .if_icmp .eq 5, 3), (1023, .iconst 0, 1), (1024, .ireturn, 1), (1025, .iinc 3 6, 3), (1028, .goto (-1010), 3), (1031, .iconst 1, 1), (1032, .ireturn, 1)]
set_option maxRecDepth 100000 in
theorem zzk_213_14 : ∀ q ∈ zzc_213_14, decode cL_law q.1 = .ok q.2 := by decide +kernel
def zzc_213 : List (Nat × Instr × Nat) := zzc_213_0 ++ (zzc_213_1 ++ (zzc_213_2 ++ (zzc_213_3 ++ (zzc_213_4 ++ (zzc_213_5 ++ (zzc_213_6 ++ (zzc_213_7 ++ (zzc_213_8 ++ (zzc_213_9 ++ (zzc_213_10 ++ (zzc_213_11 ++ (zzc_213_12 ++ (zzc_213_13 ++ (zzc_213_14))))))))))))))
theorem zzk_213 : ∀ q ∈ zzc_213, decode cL_law q.1 = .ok q.2 := List.forall_mem_append.mpr ⟨zzk_213_0, List.forall_mem_append.mpr ⟨zzk_213_1, List.forall_mem_append.mpr ⟨zzk_213_2, List.forall_mem_append.mpr ⟨zzk_213_3, List.forall_mem_append.mpr ⟨zzk_213_4, List.forall_mem_append.mpr ⟨zzk_213_5, List.forall_mem_append.mpr ⟨zzk_213_6, List.forall_mem_append.mpr ⟨zzk_213_7, List.forall_mem_append.mpr ⟨zzk_213_8, List.forall_mem_append.mpr ⟨zzk_213_9, List.forall_mem_append.mpr ⟨zzk_213_10, List.forall_mem_append.mpr ⟨zzk_213_11, List.forall_mem_append.mpr ⟨zzk_213_12, List.forall_mem_append.mpr ⟨zzk_213_13, zzk_213_14⟩⟩⟩⟩⟩⟩⟩⟩⟩⟩⟩⟩⟩⟩
end
section
/-! tables of the program: fields' types, methods, code, links (written by wip/whole/gen1.py) -/
abbrev zzRow : Type := MethodName × ByteArray × Nat × Option FieldType × Nat × Nat × Nat × List (Nat × Instr × Nat)
def zzR : Nat → String := fun c => match c with
  | 0 => RX0
  | 1 => RX1
  | 2 => RX2
  | 3 => RX3
  | 4 => RX4
  | 5 => RX5
  | 6 => RX6
  | 7 => RX7
  | _ => "BackSeatLaw"
def zzTf : Nat → u_T := fun c => match c with
  | 0 => TX0
  | 1 => TX1
  | 2 => TX2
  | 3 => TX3
  | 4 => TX4
  | 5 => TX5
  | 6 => TX6
  | _ => TX7
def zzTy : Nat → Nat → FieldType := fun c => match c with
  | 0 => tyX0
  | 1 => tyX1
  | 2 => tyX2
  | 3 => tyX3
  | 4 => tyX4
  | 5 => tyX5
  | 6 => tyX6
  | _ => tyX7
def zzN : Nat → Nat := fun c => match c with
  | 0 => 11
  | 1 => 6
  | 2 => 7
  | 3 => 7
  | 4 => 3
  | 5 => 5
  | 6 => 9
  | _ => 52
/-- 0 int, 1 boolean, 2 long, 3 a reference -/
def zzFt : List (List Nat) := [[3, 0, 0, 0, 0, 3, 3, 3, 3, 3, 3], [3, 3, 3, 0, 0, 0], [3, 3, 0, 0, 0, 0, 0], [3, 3, 3, 3, 0, 0, 0], [0, 0, 3], [3, 3, 3, 0, 0], [3, 3, 3, 3, 3, 1, 3, 3, 3], [0, 3, 3, 0, 0, 3, 0, 0, 0, 3, 3, 3, 3, 3, 0, 0, 0, 0, 0, 0, 0, 0, 0, 0, 0, 0, 2, 0, 1, 0, 3, 3, 3, 0, 0, 0, 0, 0, 0, 0, 3, 3, 3, 3, 0, 0, 0, 0, 3, 3, 3, 3]]
def zzT (c k : Nat) : Nat := (zzFt.getD c []).getD k 0
def zzFn : List (List Bool) := [[true, false, false, false, false, true, true, true, true, true, true], [true, true, true, false, false, false], [true, true, false, false, false, false, false], [true, true, true, true, false, false, false], [false, false, true], [true, true, true, false, false], [true, true, true, true, true, false, true, true, true], [false, true, true, false, false, true, false, false, false, true, true, true, true, true, false, false, false, false, false, false, false, false, false, false, false, false, false, false, false, false, true, true, true, false, false, false, false, false, false, false, true, true, true, true, false, false, false, false, true, true, true, true]]
def zzFin (c k : Nat) : Bool := (zzFn.getD c []).getD k false
def zzMs_0 : List zzRow := [(yX0_init, cX0_init, 2, none, 0, 2, 2, zzc_0), (yX0_take, cX0_take, 2, none, 0, 2, 1, zzc_1), (yX0_has, cX0_has, 2, (some .boolean), 0, 2, 1, zzc_2), (yX0_join, cX0_join, 3, (some .int), 0, 3, 1, zzc_3), (yX0_kindOf, cX0_kindOf, 2, (some .int), 0, 2, 1, zzc_4), (yX0_numberOf, cX0_numberOf, 2, (some .int), 0, 2, 1, zzc_5), (yX0_friendOf, cX0_friendOf, 2, (some .int), 0, 2, 1, zzc_6), (yX0_seatOf, cX0_seatOf, 2, (some .int), 0, 2, 1, zzc_7), (yX0_sits, cX0_sits, 2, (some .boolean), 0, 2, 1, zzc_8), (yX0_sitterAt, cX0_sitterAt, 2, (some .int), 0, 2, 1, zzc_9), (yX0_isOpen, cX0_isOpen, 4, (some .boolean), 0, 3, 1, zzc_10), (yX0_move, cX0_move, 3, none, 0, 3, 1, zzc_11), (yX0_exchange, cX0_exchange, 5, none, 0, 3, 1, zzc_12), (yX0_firstFreeFrom, cX0_firstFreeFrom, 3, (some .int), 0, 2, 1, zzc_13), (yX0_firstFreeInFront, cX0_firstFreeInFront, 2, (some .int), 0, 1, 1, zzc_14), (yX0_firstTeacher, cX0_firstTeacher, 2, (some .int), 0, 1, 1, zzc_15), (yX0_areBeside, cX0_areBeside, 5, (some .boolean), 0, 3, 1, zzc_16), (yX0_neighbours, cX0_neighbours, 5, (some .int), 0, 2, 1, zzc_17), (yX0_isWatched, cX0_isWatched, 3, (some .boolean), 0, 2, 1, zzc_18), (yX0_isTeacher, cX0_isTeacher, 2, (some .boolean), 0, 2, 1, zzc_19)]
theorem zzMk_0 : ∀ r ∈ zzMs_0, ∀ q ∈ r.2.2.2.2.2.2.2, decode r.2.1 q.1 = .ok q.2 := List.forall_mem_cons.mpr ⟨zzk_0, List.forall_mem_cons.mpr ⟨zzk_1, List.forall_mem_cons.mpr ⟨zzk_2, List.forall_mem_cons.mpr ⟨zzk_3, List.forall_mem_cons.mpr ⟨zzk_4, List.forall_mem_cons.mpr ⟨zzk_5, List.forall_mem_cons.mpr ⟨zzk_6, List.forall_mem_cons.mpr ⟨zzk_7, List.forall_mem_cons.mpr ⟨zzk_8, List.forall_mem_cons.mpr ⟨zzk_9, List.forall_mem_cons.mpr ⟨zzk_10, List.forall_mem_cons.mpr ⟨zzk_11, List.forall_mem_cons.mpr ⟨zzk_12, List.forall_mem_cons.mpr ⟨zzk_13, List.forall_mem_cons.mpr ⟨zzk_14, List.forall_mem_cons.mpr ⟨zzk_15, List.forall_mem_cons.mpr ⟨zzk_16, List.forall_mem_cons.mpr ⟨zzk_17, List.forall_mem_cons.mpr ⟨zzk_18, List.forall_mem_cons.mpr ⟨zzk_19, fun _ h => absurd h List.not_mem_nil⟩⟩⟩⟩⟩⟩⟩⟩⟩⟩⟩⟩⟩⟩⟩⟩⟩⟩⟩⟩
def zzMs_1 : List zzRow := [(yX0_telling, cX0_telling, 6, (some .int), 0, 4, 1, zzc_20), (yX0_noise, cX0_noise, 4, (some .int), 0, 2, 1, zzc_21), (yX0_queasy, cX0_queasy, 4, (some .int), 0, 3, 1, zzc_22), (yX0_glad, cX0_glad, 3, (some .int), 0, 2, 1, zzc_23), (yX0_din, cX0_din, 3, (some .int), 0, 1, 1, zzc_24), (yX0_joy, cX0_joy, 3, (some .int), 0, 1, 1, zzc_25), (yX0_sitting, cX0_sitting, 3, (some .int), 0, 1, 1, zzc_26), (yX0_alone, cX0_alone, 3, (some .int), 0, 1, 1, zzc_27), (yX0_otherwise, cX0_otherwise, 4, (some .int), 0, 2, 1, zzc_28), (yX1_init, cX1_init, 1, none, 1, 1, 2, zzc_29), (yX1_takes, cX1_takes, 4, (some .boolean), 1, 3, 1, zzc_30), (yX1_isUnlike, cX1_isUnlike, 4, (some .boolean), 1, 2, 1, zzc_31), (yX1_isAllThere, cX1_isAllThere, 5, (some .boolean), 1, 2, 1, zzc_32), (yX1_isTold, cX1_isTold, 3, (some .boolean), 1, 2, 1, zzc_33), (yX1_seek, cX1_seek, 5, none, 1, 2, 1, zzc_34), (yX1_seatAll, cX1_seatAll, 3, none, 1, 2, 1, zzc_35), (yX1_digits, cX1_digits, 3, (some .int), 1, 1, 1, zzc_36), (yX1_nextOrder, cX1_nextOrder, 5, (some .boolean), 1, 1, 1, zzc_37), (yX1_swapPlaces, cX1_swapPlaces, 4, none, 1, 3, 1, zzc_38), (yX2_init, cX2_init, 2, none, 2, 2, 2, zzc_39)]
theorem zzMk_1 : ∀ r ∈ zzMs_1, ∀ q ∈ r.2.2.2.2.2.2.2, decode r.2.1 q.1 = .ok q.2 := List.forall_mem_cons.mpr ⟨zzk_20, List.forall_mem_cons.mpr ⟨zzk_21, List.forall_mem_cons.mpr ⟨zzk_22, List.forall_mem_cons.mpr ⟨zzk_23, List.forall_mem_cons.mpr ⟨zzk_24, List.forall_mem_cons.mpr ⟨zzk_25, List.forall_mem_cons.mpr ⟨zzk_26, List.forall_mem_cons.mpr ⟨zzk_27, List.forall_mem_cons.mpr ⟨zzk_28, List.forall_mem_cons.mpr ⟨zzk_29, List.forall_mem_cons.mpr ⟨zzk_30, List.forall_mem_cons.mpr ⟨zzk_31, List.forall_mem_cons.mpr ⟨zzk_32, List.forall_mem_cons.mpr ⟨zzk_33, List.forall_mem_cons.mpr ⟨zzk_34, List.forall_mem_cons.mpr ⟨zzk_35, List.forall_mem_cons.mpr ⟨zzk_36, List.forall_mem_cons.mpr ⟨zzk_37, List.forall_mem_cons.mpr ⟨zzk_38, List.forall_mem_cons.mpr ⟨zzk_39, fun _ h => absurd h List.not_mem_nil⟩⟩⟩⟩⟩⟩⟩⟩⟩⟩⟩⟩⟩⟩⟩⟩⟩⟩⟩⟩
def zzMs_2 : List zzRow := [(yX2_append, cX2_append, 2, (some .int), 2, 2, 1, zzc_40), (yX2_read, cX2_read, 2, (some .int), 2, 1, 1, zzc_41), (yX2_readOr, cX2_readOr, 3, none, 2, 2, 1, zzc_42), (yX2_readAnd, cX2_readAnd, 3, none, 2, 2, 1, zzc_43), (yX2_readNot, cX2_readNot, 3, none, 2, 2, 1, zzc_44), (yX2_readSum, cX2_readSum, 4, none, 2, 2, 1, zzc_45), (yX2_readTerm, cX2_readTerm, 3, none, 2, 2, 1, zzc_46), (yX2_readOne, cX2_readOne, 2, none, 2, 2, 1, zzc_47), (yX2_opens, cX2_opens, 2, (some .boolean), 2, 2, 1, zzc_48), (yX2_expect, cX2_expect, 2, none, 2, 2, 1, zzc_49), (yX2_fail, cX2_fail, 1, none, 2, 1, 1, zzc_50), (yX2_advance, cX2_advance, 2, none, 2, 1, 1, zzc_51), (yX2_advanceWord, cX2_advanceWord, 2, none, 2, 1, 1, zzc_52), (yX2_isWord, cX2_isWord, 3, (some .boolean), 2, 2, 1, zzc_53), (yX2_spelling, cX2_spelling, 1, (some (.object "java/lang/String")), 2, 1, 0, zzc_54), (yX2_advanceNumber, cX2_advanceNumber, 2, none, 2, 1, 1, zzc_55), (yX2_advanceSign, cX2_advanceSign, 2, none, 2, 2, 1, zzc_56), (yX2_byteAt, cX2_byteAt, 2, (some .int), 2, 2, 1, zzc_57), (yX2_isBlank, cX2_isBlank, 1, (some .boolean), 2, 1, 0, zzc_58), (yX2_isLetter, cX2_isLetter, 1, (some .boolean), 2, 1, 0, zzc_59)]
theorem zzMk_2 : ∀ r ∈ zzMs_2, ∀ q ∈ r.2.2.2.2.2.2.2, decode r.2.1 q.1 = .ok q.2 := List.forall_mem_cons.mpr ⟨zzk_40, List.forall_mem_cons.mpr ⟨zzk_41, List.forall_mem_cons.mpr ⟨zzk_42, List.forall_mem_cons.mpr ⟨zzk_43, List.forall_mem_cons.mpr ⟨zzk_44, List.forall_mem_cons.mpr ⟨zzk_45, List.forall_mem_cons.mpr ⟨zzk_46, List.forall_mem_cons.mpr ⟨zzk_47, List.forall_mem_cons.mpr ⟨zzk_48, List.forall_mem_cons.mpr ⟨zzk_49, List.forall_mem_cons.mpr ⟨zzk_50, List.forall_mem_cons.mpr ⟨zzk_51, List.forall_mem_cons.mpr ⟨zzk_52, List.forall_mem_cons.mpr ⟨zzk_53, List.forall_mem_cons.mpr ⟨zzk_54, List.forall_mem_cons.mpr ⟨zzk_55, List.forall_mem_cons.mpr ⟨zzk_56, List.forall_mem_cons.mpr ⟨zzk_57, List.forall_mem_cons.mpr ⟨zzk_58, List.forall_mem_cons.mpr ⟨zzk_59, fun _ h => absurd h List.not_mem_nil⟩⟩⟩⟩⟩⟩⟩⟩⟩⟩⟩⟩⟩⟩⟩⟩⟩⟩⟩⟩
def zzMs_3 : List zzRow := [(yX2_isDigit, cX2_isDigit, 1, (some .boolean), 2, 1, 0, zzc_60), (yX3_init, cX3_init, 1, none, 3, 1, 2, zzc_61), (yX3_plan, cX3_plan, 5, none, 3, 3, 1, zzc_62), (yX3_sick, cX3_sick, 4, (some .int), 3, 2, 1, zzc_63), (yX3_sickIn, cX3_sickIn, 6, (some .int), 3, 2, 1, zzc_64), (yX3_noteSick, cX3_noteSick, 3, none, 3, 3, 1, zzc_65), (yX3_firstSick, cX3_firstSick, 3, (some .int), 3, 1, 1, zzc_66), (yX4_init, cX4_init, 1, none, 4, 1, 2, zzc_67), (yX4_become, cX4_become, 3, none, 4, 3, 1, zzc_68), (yX4_isMissing, cX4_isMissing, 1, (some .boolean), 4, 1, 1, zzc_69), (yX4_has, cX4_has, 2, (some .boolean), 4, 2, 1, zzc_70), (yX4_hasRun, cX4_hasRun, 3, (some .boolean), 4, 3, 1, zzc_71), (yX4_item, cX4_item, 2, (some .int), 4, 2, 1, zzc_72), (yX4_write, cX4_write, 3, none, 4, 3, 1, zzc_73), (yX5_init, cX5_init, 1, none, 5, 1, 2, zzc_74), (yX5_startDraft, cX5_startDraft, 1, none, 5, 1, 1, zzc_75), (yX5_add, cX5_add, 2, none, 5, 2, 1, zzc_76), (yX5_endPart, cX5_endPart, 2, none, 5, 2, 1, zzc_77), (yX5_keepDraft, cX5_keepDraft, 1, none, 5, 1, 1, zzc_78), (yX5_value, cX5_value, 10, (some .int), 5, 4, 1, zzc_79)]
theorem zzMk_3 : ∀ r ∈ zzMs_3, ∀ q ∈ r.2.2.2.2.2.2.2, decode r.2.1 q.1 = .ok q.2 := List.forall_mem_cons.mpr ⟨zzk_60, List.forall_mem_cons.mpr ⟨zzk_61, List.forall_mem_cons.mpr ⟨zzk_62, List.forall_mem_cons.mpr ⟨zzk_63, List.forall_mem_cons.mpr ⟨zzk_64, List.forall_mem_cons.mpr ⟨zzk_65, List.forall_mem_cons.mpr ⟨zzk_66, List.forall_mem_cons.mpr ⟨zzk_67, List.forall_mem_cons.mpr ⟨zzk_68, List.forall_mem_cons.mpr ⟨zzk_69, List.forall_mem_cons.mpr ⟨zzk_70, List.forall_mem_cons.mpr ⟨zzk_71, List.forall_mem_cons.mpr ⟨zzk_72, List.forall_mem_cons.mpr ⟨zzk_73, List.forall_mem_cons.mpr ⟨zzk_74, List.forall_mem_cons.mpr ⟨zzk_75, List.forall_mem_cons.mpr ⟨zzk_76, List.forall_mem_cons.mpr ⟨zzk_77, List.forall_mem_cons.mpr ⟨zzk_78, List.forall_mem_cons.mpr ⟨zzk_79, fun _ h => absurd h List.not_mem_nil⟩⟩⟩⟩⟩⟩⟩⟩⟩⟩⟩⟩⟩⟩⟩⟩⟩⟩⟩⟩
def zzMs_4 : List zzRow := [(yX5_joined, cX5_joined, 3, (some .int), 5, 3, 0, zzc_80), (yX6_init, cX6_init, 2, none, 6, 1, 2, zzc_81), (yX6_set, cX6_set, 4, (some .int), 6, 4, 1, zzc_82), (yX6_setForAll, cX6_setForAll, 4, (some .int), 6, 3, 1, zzc_83), (yX6_passenger, cX6_passenger, 3, (some .int), 6, 3, 1, zzc_84), (yX6_sit, cX6_sit, 5, (some .int), 6, 3, 1, zzc_85), (yX6_told, cX6_told, 3, (some .int), 6, 3, 1, zzc_86), (yX6_who, cX6_who, 2, (some .int), 6, 2, 1, zzc_87), (yX6_feed, cX6_feed, 2, (some .int), 6, 2, 1, zzc_88), (yX6_text, cX6_text, 2, (some .int), 6, 1, 1, zzc_89), (yX6_force, cX6_force, 3, (some .int), 6, 2, 1, zzc_90), (yX6_all, cX6_all, 2, (some .int), 6, 2, 1, zzc_91), (yX6_ride, cX6_ride, 6, (some .int), 6, 3, 1, zzc_92), (yX6_isRide, cX6_isRide, 1, (some .boolean), 6, 1, 0, zzc_93), (yX6_best, cX6_best, 7, (some .int), 6, 3, 1, zzc_94), (yX6_change, cX6_change, 7, (some .int), 6, 2, 1, zzc_95), (yX6_watch, cX6_watch, 9, (some .int), 6, 2, 1, zzc_96), (yX6_hat, cX6_hat, 4, (some .int), 6, 3, 1, zzc_97), (yX6_front, cX6_front, 8, (some .int), 6, 3, 1, zzc_98), (yX6_stop, cX6_stop, 7, (some .int), 6, 3, 1, zzc_99)]
theorem zzMk_4 : ∀ r ∈ zzMs_4, ∀ q ∈ r.2.2.2.2.2.2.2, decode r.2.1 q.1 = .ok q.2 := List.forall_mem_cons.mpr ⟨zzk_80, List.forall_mem_cons.mpr ⟨zzk_81, List.forall_mem_cons.mpr ⟨zzk_82, List.forall_mem_cons.mpr ⟨zzk_83, List.forall_mem_cons.mpr ⟨zzk_84, List.forall_mem_cons.mpr ⟨zzk_85, List.forall_mem_cons.mpr ⟨zzk_86, List.forall_mem_cons.mpr ⟨zzk_87, List.forall_mem_cons.mpr ⟨zzk_88, List.forall_mem_cons.mpr ⟨zzk_89, List.forall_mem_cons.mpr ⟨zzk_90, List.forall_mem_cons.mpr ⟨zzk_91, List.forall_mem_cons.mpr ⟨zzk_92, List.forall_mem_cons.mpr ⟨zzk_93, List.forall_mem_cons.mpr ⟨zzk_94, List.forall_mem_cons.mpr ⟨zzk_95, List.forall_mem_cons.mpr ⟨zzk_96, List.forall_mem_cons.mpr ⟨zzk_97, List.forall_mem_cons.mpr ⟨zzk_98, List.forall_mem_cons.mpr ⟨zzk_99, fun _ h => absurd h List.not_mem_nil⟩⟩⟩⟩⟩⟩⟩⟩⟩⟩⟩⟩⟩⟩⟩⟩⟩⟩⟩⟩
def zzMs_5 : List zzRow := [(yX6_isZeroOrOne, cX6_isZeroOrOne, 1, (some .boolean), 6, 1, 0, zzc_100), (yX6_dinMoved, cX6_dinMoved, 3, (some .int), 6, 3, 1, zzc_101), (yX6_dinChanged, cX6_dinChanged, 3, (some .int), 6, 3, 1, zzc_102), (yX6_sickMoved, cX6_sickMoved, 4, (some .int), 6, 4, 1, zzc_103), (yX6_tells, cX6_tells, 7, (some .int), 6, 3, 1, zzc_104), (yX6_textsTold, cX6_textsTold, 4, (some .int), 6, 2, 1, zzc_105), (yX6_milesTold, cX6_milesTold, 4, (some .int), 6, 2, 1, zzc_106), (yX6_leastMileTold, cX6_leastMileTold, 3, (some .int), 6, 2, 1, zzc_107), (yX6_itemsTold, cX6_itemsTold, 7, (some .int), 6, 5, 1, zzc_108), (yX6_seatsTold, cX6_seatsTold, 5, (some .int), 6, 3, 1, zzc_109), (yX6_film, cX6_film, 4, (some .int), 6, 2, 1, zzc_110), (yX6_drawn, cX6_drawn, 4, (some .int), 6, 2, 1, zzc_111), (yX6_chance, cX6_chance, 7, (some .long), 6, 4, 1, zzc_112), (yX6_lowered, cX6_lowered, 4, (some .int), 6, 3, 0, zzc_113), (yX6_image, cX6_image, 1, (some .int), 6, 1, 1, zzc_114), (yX6_back, cX6_back, 1, (some .int), 6, 1, 1, zzc_115), (yX6_count, cX6_count, 2, (some .int), 6, 2, 1, zzc_116), (yX6_sheet, cX6_sheet, 5, (some .int), 6, 4, 1, zzc_117), (yX6_cell, cX6_cell, 5, (some .int), 6, 4, 1, zzc_118), (yX6_copy, cX6_copy, 8, (some .int), 6, 6, 1, zzc_119)]
theorem zzMk_5 : ∀ r ∈ zzMs_5, ∀ q ∈ r.2.2.2.2.2.2.2, decode r.2.1 q.1 = .ok q.2 := List.forall_mem_cons.mpr ⟨zzk_100, List.forall_mem_cons.mpr ⟨zzk_101, List.forall_mem_cons.mpr ⟨zzk_102, List.forall_mem_cons.mpr ⟨zzk_103, List.forall_mem_cons.mpr ⟨zzk_104, List.forall_mem_cons.mpr ⟨zzk_105, List.forall_mem_cons.mpr ⟨zzk_106, List.forall_mem_cons.mpr ⟨zzk_107, List.forall_mem_cons.mpr ⟨zzk_108, List.forall_mem_cons.mpr ⟨zzk_109, List.forall_mem_cons.mpr ⟨zzk_110, List.forall_mem_cons.mpr ⟨zzk_111, List.forall_mem_cons.mpr ⟨zzk_112, List.forall_mem_cons.mpr ⟨zzk_113, List.forall_mem_cons.mpr ⟨zzk_114, List.forall_mem_cons.mpr ⟨zzk_115, List.forall_mem_cons.mpr ⟨zzk_116, List.forall_mem_cons.mpr ⟨zzk_117, List.forall_mem_cons.mpr ⟨zzk_118, List.forall_mem_cons.mpr ⟨zzk_119, fun _ h => absurd h List.not_mem_nil⟩⟩⟩⟩⟩⟩⟩⟩⟩⟩⟩⟩⟩⟩⟩⟩⟩⟩⟩⟩
def zzMs_6 : List zzRow := [(yX6_passengers, cX6_passengers, 9, (some .int), 6, 5, 1, zzc_120), (yX6_taken, cX6_taken, 3, (some .int), 6, 3, 1, zzc_121), (yX6_isUnder, cX6_isUnder, 4, (some .boolean), 6, 2, 0, zzc_122), (yX6_kindAbove, cX6_kindAbove, 1, (some .int), 6, 1, 0, zzc_123), (yX6_sheetAt, cX6_sheetAt, 2, (some (.object "BackSeat$Sheet")), 6, 2, 1, zzc_124), (yX6_itemAt, cX6_itemAt, 2, (some .int), 6, 2, 0, zzc_125), (yX6_put, cX6_put, 3, none, 6, 3, 0, zzc_126), (yX6_swapItem, cX6_swapItem, 4, (some .int), 6, 3, 0, zzc_127), (yX6_fill, cX6_fill, 3, none, 6, 2, 0, zzc_128), (yX6_fillFrom, cX6_fillFrom, 2, none, 6, 2, 0, zzc_129), (yX6_pairSeat, cX6_pairSeat, 1, (some .int), 6, 1, 0, zzc_130), (yX6_crossSeat, cX6_crossSeat, 1, (some .int), 6, 1, 0, zzc_131), (yX6_noiseBy, cX6_noiseBy, 7, (some .int), 6, 5, 0, zzc_132), (yX6_queasyBy, cX6_queasyBy, 4, (some .int), 6, 3, 0, zzc_133), (yX6_gladBy, cX6_gladBy, 6, (some .int), 6, 4, 0, zzc_134), (yX6_bounded, cX6_bounded, 3, (some .int), 6, 3, 0, zzc_135), (yX7_in, cX7_in, 6, (some .boolean), 7, 3, 0, zzc_136), (yX7_within, cX7_within, 3, (some .int), 7, 3, 0, zzc_137), (yX7_init, cX7_init, 2, none, 7, 1, 2, zzc_138), (yX7_spell, cX7_spell, 10, none, 7, 10, 1, zzc_139)]
theorem zzMk_6 : ∀ r ∈ zzMs_6, ∀ q ∈ r.2.2.2.2.2.2.2, decode r.2.1 q.1 = .ok q.2 := List.forall_mem_cons.mpr ⟨zzk_120, List.forall_mem_cons.mpr ⟨zzk_121, List.forall_mem_cons.mpr ⟨zzk_122, List.forall_mem_cons.mpr ⟨zzk_123, List.forall_mem_cons.mpr ⟨zzk_124, List.forall_mem_cons.mpr ⟨zzk_125, List.forall_mem_cons.mpr ⟨zzk_126, List.forall_mem_cons.mpr ⟨zzk_127, List.forall_mem_cons.mpr ⟨zzk_128, List.forall_mem_cons.mpr ⟨zzk_129, List.forall_mem_cons.mpr ⟨zzk_130, List.forall_mem_cons.mpr ⟨zzk_131, List.forall_mem_cons.mpr ⟨zzk_132, List.forall_mem_cons.mpr ⟨zzk_133, List.forall_mem_cons.mpr ⟨zzk_134, List.forall_mem_cons.mpr ⟨zzk_135, List.forall_mem_cons.mpr ⟨zzk_136, List.forall_mem_cons.mpr ⟨zzk_137, List.forall_mem_cons.mpr ⟨zzk_138, List.forall_mem_cons.mpr ⟨zzk_139, fun _ h => absurd h List.not_mem_nil⟩⟩⟩⟩⟩⟩⟩⟩⟩⟩⟩⟩⟩⟩⟩⟩⟩⟩⟩⟩
def zzMs_7 : List zzRow := [(yX7_isOne, cX7_isOne, 2, (some .boolean), 7, 2, 1, zzc_140), (yX7_isSeat, cX7_isSeat, 1, (some .boolean), 7, 1, 0, zzc_141), (yX7_isValue, cX7_isValue, 4, (some .boolean), 7, 4, 1, zzc_142), (yX7_set, cX7_set, 5, (some .int), 7, 4, 1, zzc_143), (yX7_lays, cX7_lays, 4, none, 7, 4, 1, zzc_144), (yX7_passenger, cX7_passenger, 3, (some .int), 7, 3, 1, zzc_145), (yX7_seats, cX7_seats, 3, none, 7, 3, 1, zzc_146), (yX7_sit, cX7_sit, 4, (some .int), 7, 3, 1, zzc_147), (yX7_told, cX7_told, 3, (some .int), 7, 3, 1, zzc_148), (yX7_who, cX7_who, 2, (some .int), 7, 2, 1, zzc_149), (yX7_feed, cX7_feed, 2, (some .int), 7, 2, 1, zzc_150), (yX7_byteAt, cX7_byteAt, 2, (some .int), 7, 2, 1, zzc_151), (yX7_next, cX7_next, 3, none, 7, 1, 1, zzc_152), (yX7_fail, cX7_fail, 1, none, 7, 1, 1, zzc_153), (yX7_isLetter, cX7_isLetter, 3, (some .boolean), 7, 3, 1, zzc_154), (yX7_isWord, cX7_isWord, 9, (some .boolean), 7, 9, 1, zzc_155), (yX7_isSign, cX7_isSign, 2, (some .boolean), 7, 2, 1, zzc_156), (yX7_opens, cX7_opens, 1, (some .boolean), 7, 1, 1, zzc_157), (yX7_name, cX7_name, 1, (some .int), 7, 1, 1, zzc_158), (yX7_atom, cX7_atom, 2, (some .int), 7, 1, 1, zzc_159)]
theorem zzMk_7 : ∀ r ∈ zzMs_7, ∀ q ∈ r.2.2.2.2.2.2.2, decode r.2.1 q.1 = .ok q.2 := List.forall_mem_cons.mpr ⟨zzk_140, List.forall_mem_cons.mpr ⟨zzk_141, List.forall_mem_cons.mpr ⟨zzk_142, List.forall_mem_cons.mpr ⟨zzk_143, List.forall_mem_cons.mpr ⟨zzk_144, List.forall_mem_cons.mpr ⟨zzk_145, List.forall_mem_cons.mpr ⟨zzk_146, List.forall_mem_cons.mpr ⟨zzk_147, List.forall_mem_cons.mpr ⟨zzk_148, List.forall_mem_cons.mpr ⟨zzk_149, List.forall_mem_cons.mpr ⟨zzk_150, List.forall_mem_cons.mpr ⟨zzk_151, List.forall_mem_cons.mpr ⟨zzk_152, List.forall_mem_cons.mpr ⟨zzk_153, List.forall_mem_cons.mpr ⟨zzk_154, List.forall_mem_cons.mpr ⟨zzk_155, List.forall_mem_cons.mpr ⟨zzk_156, List.forall_mem_cons.mpr ⟨zzk_157, List.forall_mem_cons.mpr ⟨zzk_158, List.forall_mem_cons.mpr ⟨zzk_159, fun _ h => absurd h List.not_mem_nil⟩⟩⟩⟩⟩⟩⟩⟩⟩⟩⟩⟩⟩⟩⟩⟩⟩⟩⟩⟩
def zzMs_8 : List zzRow := [(yX7_term, cX7_term, 2, (some .int), 7, 1, 1, zzc_160), (yX7_added, cX7_added, 4, (some .int), 7, 1, 1, zzc_161), (yX7_not, cX7_not, 4, (some .int), 7, 1, 1, zzc_162), (yX7_both, cX7_both, 3, (some .int), 7, 1, 1, zzc_163), (yX7_either, cX7_either, 3, (some .int), 7, 1, 1, zzc_164), (yX7_part, cX7_part, 3, (some .int), 7, 2, 1, zzc_165), (yX7_read, cX7_read, 6, (some .int), 7, 3, 1, zzc_166), (yX7_text, cX7_text, 2, (some .int), 7, 1, 1, zzc_167), (yX7_force, cX7_force, 3, (some .int), 7, 2, 1, zzc_168), (yX7_neighbour, cX7_neighbour, 6, (some .int), 7, 3, 1, zzc_169), (yX7_besideOf, cX7_besideOf, 2, (some .int), 7, 2, 1, zzc_170), (yX7_isTeacher, cX7_isTeacher, 2, (some .boolean), 7, 2, 1, zzc_171), (yX7_isWatched, cX7_isWatched, 2, (some .boolean), 7, 2, 1, zzc_172), (yX7_hasFriend, cX7_hasFriend, 2, (some .boolean), 7, 2, 1, zzc_173), (yX7_asks, cX7_asks, 4, (some .int), 7, 4, 1, zzc_174), (yX7_noiseOf, cX7_noiseOf, 6, (some .int), 7, 2, 1, zzc_175), (yX7_queasyOf, cX7_queasyOf, 7, (some .int), 7, 3, 1, zzc_176), (yX7_gladOf, cX7_gladOf, 7, (some .int), 7, 2, 1, zzc_177), (yX7_din, cX7_din, 3, (some .int), 7, 1, 1, zzc_178), (yX7_joy, cX7_joy, 3, (some .int), 7, 1, 1, zzc_179)]
theorem zzMk_8 : ∀ r ∈ zzMs_8, ∀ q ∈ r.2.2.2.2.2.2.2, decode r.2.1 q.1 = .ok q.2 := List.forall_mem_cons.mpr ⟨zzk_160, List.forall_mem_cons.mpr ⟨zzk_161, List.forall_mem_cons.mpr ⟨zzk_162, List.forall_mem_cons.mpr ⟨zzk_163, List.forall_mem_cons.mpr ⟨zzk_164, List.forall_mem_cons.mpr ⟨zzk_165, List.forall_mem_cons.mpr ⟨zzk_166, List.forall_mem_cons.mpr ⟨zzk_167, List.forall_mem_cons.mpr ⟨zzk_168, List.forall_mem_cons.mpr ⟨zzk_169, List.forall_mem_cons.mpr ⟨zzk_170, List.forall_mem_cons.mpr ⟨zzk_171, List.forall_mem_cons.mpr ⟨zzk_172, List.forall_mem_cons.mpr ⟨zzk_173, List.forall_mem_cons.mpr ⟨zzk_174, List.forall_mem_cons.mpr ⟨zzk_175, List.forall_mem_cons.mpr ⟨zzk_176, List.forall_mem_cons.mpr ⟨zzk_177, List.forall_mem_cons.mpr ⟨zzk_178, List.forall_mem_cons.mpr ⟨zzk_179, fun _ h => absurd h List.not_mem_nil⟩⟩⟩⟩⟩⟩⟩⟩⟩⟩⟩⟩⟩⟩⟩⟩⟩⟩⟩⟩
def zzMs_9 : List zzRow := [(yX7_all, cX7_all, 4, (some .int), 7, 2, 1, zzc_180), (yX7_rides, cX7_rides, 5, none, 7, 3, 1, zzc_181), (yX7_ride, cX7_ride, 4, (some .int), 7, 3, 1, zzc_182), (yX7_best, cX7_best, 6, (some .int), 7, 3, 1, zzc_183), (yX7_swaps, cX7_swaps, 5, none, 7, 3, 1, zzc_184), (yX7_looksAt, cX7_looksAt, 4, none, 7, 3, 1, zzc_185), (yX7_change, cX7_change, 4, (some .int), 7, 2, 1, zzc_186), (yX7_firstTeacher, cX7_firstTeacher, 2, (some .int), 7, 1, 1, zzc_187), (yX7_watch, cX7_watch, 8, (some .int), 7, 2, 1, zzc_188), (yX7_isHat, cX7_isHat, 6, (some .boolean), 7, 2, 1, zzc_189), (yX7_seeks, cX7_seeks, 7, none, 7, 5, 1, zzc_190), (yX7_stands, cX7_stands, 2, none, 7, 1, 1, zzc_191), (yX7_sitsAgain, cX7_sitsAgain, 2, none, 7, 1, 1, zzc_192), (yX7_hat, cX7_hat, 4, (some .int), 7, 3, 1, zzc_193), (yX7_front, cX7_front, 6, (some .int), 7, 3, 1, zzc_194), (yX7_stop, cX7_stop, 4, (some .int), 7, 3, 1, zzc_195), (yX7_unlike, cX7_unlike, 4, (some .int), 7, 2, 1, zzc_196), (yX7_seatsBy, cX7_seatsBy, 6, (some .int), 7, 3, 1, zzc_197), (yX7_tells, cX7_tells, 12, (some .int), 7, 3, 1, zzc_198), (yX7_film, cX7_film, 3, (some .int), 7, 2, 1, zzc_199)]
theorem zzMk_9 : ∀ r ∈ zzMs_9, ∀ q ∈ r.2.2.2.2.2.2.2, decode r.2.1 q.1 = .ok q.2 := List.forall_mem_cons.mpr ⟨zzk_180, List.forall_mem_cons.mpr ⟨zzk_181, List.forall_mem_cons.mpr ⟨zzk_182, List.forall_mem_cons.mpr ⟨zzk_183, List.forall_mem_cons.mpr ⟨zzk_184, List.forall_mem_cons.mpr ⟨zzk_185, List.forall_mem_cons.mpr ⟨zzk_186, List.forall_mem_cons.mpr ⟨zzk_187, List.forall_mem_cons.mpr ⟨zzk_188, List.forall_mem_cons.mpr ⟨zzk_189, List.forall_mem_cons.mpr ⟨zzk_190, List.forall_mem_cons.mpr ⟨zzk_191, List.forall_mem_cons.mpr ⟨zzk_192, List.forall_mem_cons.mpr ⟨zzk_193, List.forall_mem_cons.mpr ⟨zzk_194, List.forall_mem_cons.mpr ⟨zzk_195, List.forall_mem_cons.mpr ⟨zzk_196, List.forall_mem_cons.mpr ⟨zzk_197, List.forall_mem_cons.mpr ⟨zzk_198, List.forall_mem_cons.mpr ⟨zzk_199, fun _ h => absurd h List.not_mem_nil⟩⟩⟩⟩⟩⟩⟩⟩⟩⟩⟩⟩⟩⟩⟩⟩⟩⟩⟩⟩
def zzMs_10 : List zzRow := [(yX7_dinBy, cX7_dinBy, 5, (some .int), 7, 2, 1, zzc_200), (yX7_drawn, cX7_drawn, 2, (some .int), 7, 2, 1, zzc_201), (yX7_chance, cX7_chance, 13, (some .long), 7, 4, 1, zzc_202), (yX7_image, cX7_image, 2, (some .int), 7, 1, 1, zzc_203), (yX7_back, cX7_back, 2, (some .int), 7, 1, 1, zzc_204), (yX7_count, cX7_count, 4, (some .int), 7, 2, 1, zzc_205), (yX7_isSheet, cX7_isSheet, 1, (some .boolean), 7, 1, 0, zzc_206), (yX7_sheet, cX7_sheet, 5, (some .int), 7, 4, 1, zzc_207), (yX7_cell, cX7_cell, 4, (some .int), 7, 4, 1, zzc_208), (yX7_copy, cX7_copy, 9, (some .int), 7, 6, 1, zzc_209), (yX7_passengers, cX7_passengers, 8, (some .int), 7, 5, 1, zzc_210), (yX7_over, cX7_over, 1, (some .int), 7, 1, 0, zzc_211), (yX7_taken, cX7_taken, 4, (some .int), 7, 3, 1, zzc_212)]
theorem zzMk_10 : ∀ r ∈ zzMs_10, ∀ q ∈ r.2.2.2.2.2.2.2, decode r.2.1 q.1 = .ok q.2 := List.forall_mem_cons.mpr ⟨zzk_200, List.forall_mem_cons.mpr ⟨zzk_201, List.forall_mem_cons.mpr ⟨zzk_202, List.forall_mem_cons.mpr ⟨zzk_203, List.forall_mem_cons.mpr ⟨zzk_204, List.forall_mem_cons.mpr ⟨zzk_205, List.forall_mem_cons.mpr ⟨zzk_206, List.forall_mem_cons.mpr ⟨zzk_207, List.forall_mem_cons.mpr ⟨zzk_208, List.forall_mem_cons.mpr ⟨zzk_209, List.forall_mem_cons.mpr ⟨zzk_210, List.forall_mem_cons.mpr ⟨zzk_211, List.forall_mem_cons.mpr ⟨zzk_212, fun _ h => absurd h List.not_mem_nil⟩⟩⟩⟩⟩⟩⟩⟩⟩⟩⟩⟩⟩
def zzMs_11 : List zzRow := [(yL_law, cL_law, 4, (some .boolean), 8, 1, 0, zzc_213)]
theorem zzMk_11 : ∀ r ∈ zzMs_11, ∀ q ∈ r.2.2.2.2.2.2.2, decode r.2.1 q.1 = .ok q.2 := List.forall_mem_cons.mpr ⟨zzk_213, fun _ h => absurd h List.not_mem_nil⟩
def zzMsA : List zzRow := zzMs_0 ++ (zzMs_1 ++ (zzMs_2 ++ (zzMs_3 ++ (zzMs_4 ++ (zzMs_5 ++ (zzMs_6 ++ (zzMs_7 ++ (zzMs_8 ++ (zzMs_9 ++ (zzMs_10))))))))))
def zzMs : List zzRow := zzMsA ++ zzMs_11
theorem zzMk : ∀ r ∈ zzMs, ∀ q ∈ r.2.2.2.2.2.2.2, decode r.2.1 q.1 = .ok q.2 := List.forall_mem_append.mpr ⟨List.forall_mem_append.mpr ⟨zzMk_0, List.forall_mem_append.mpr ⟨zzMk_1, List.forall_mem_append.mpr ⟨zzMk_2, List.forall_mem_append.mpr ⟨zzMk_3, List.forall_mem_append.mpr ⟨zzMk_4, List.forall_mem_append.mpr ⟨zzMk_5, List.forall_mem_append.mpr ⟨zzMk_6, List.forall_mem_append.mpr ⟨zzMk_7, List.forall_mem_append.mpr ⟨zzMk_8, List.forall_mem_append.mpr ⟨zzMk_9, zzMk_10⟩⟩⟩⟩⟩⟩⟩⟩⟩⟩, zzMk_11⟩
/-- key (own class, entry) : class, field -/
def zzFL : List ((Nat × Nat) × Nat × Nat) := [((5, 9), 5, 0), ((5, 15), 5, 1), ((5, 18), 5, 2), ((5, 21), 5, 3), ((6, 146), 5, 3), ((5, 25), 5, 4), ((2, 9), 2, 0), ((2, 15), 2, 1), ((2, 19), 2, 2), ((6, 145), 2, 2), ((2, 82), 2, 3), ((2, 30), 2, 4), ((2, 51), 2, 5), ((2, 23), 2, 6), ((0, 9), 0, 0), ((0, 15), 0, 1), ((3, 38), 0, 1), ((6, 101), 0, 1), ((0, 19), 0, 2), ((3, 34), 0, 2), ((6, 105), 0, 2), ((0, 22), 0, 3), ((6, 147), 0, 3), ((0, 25), 0, 4), ((3, 28), 0, 4), ((6, 108), 0, 4), ((0, 28), 0, 5), ((6, 244), 0, 5), ((0, 32), 0, 6), ((6, 90), 0, 6), ((0, 35), 0, 7), ((6, 98), 0, 7), ((0, 38), 0, 8), ((0, 41), 0, 9), ((0, 48), 0, 10), ((3, 9), 3, 0), ((3, 15), 3, 1), ((3, 18), 3, 2), ((6, 173), 3, 2), ((3, 21), 3, 3), ((6, 176), 3, 3), ((3, 24), 3, 4), ((3, 33), 3, 5), ((3, 37), 3, 6), ((1, 9), 1, 0), ((1, 15), 1, 1), ((1, 18), 1, 2), ((1, 31), 1, 3), ((1, 72), 1, 4), ((6, 223), 1, 4), ((1, 78), 1, 5), ((6, 226), 1, 5), ((4, 9), 4, 0), ((6, 294), 4, 0), ((4, 15), 4, 1), ((1, 27), 4, 1), ((6, 243), 4, 1), ((4, 18), 4, 2), ((6, 300), 4, 2), ((6, 12), 6, 0), ((6, 21), 6, 1), ((6, 28), 6, 2), ((6, 32), 6, 3), ((6, 35), 6, 4), ((6, 38), 6, 5), ((6, 45), 6, 6), ((6, 52), 6, 7), ((6, 58), 6, 8), ((7, 13), 7, 1), ((7, 17), 7, 2), ((7, 82), 7, 3), ((7, 121), 7, 4), ((7, 20), 7, 5), ((7, 148), 7, 6), ((7, 118), 7, 7), ((7, 23), 7, 8), ((7, 26), 7, 9), ((7, 29), 7, 10), ((7, 32), 7, 11), ((7, 35), 7, 12), ((7, 38), 7, 13), ((7, 85), 7, 14), ((7, 207), 7, 15), ((7, 210), 7, 16), ((7, 213), 7, 17), ((7, 216), 7, 18), ((7, 219), 7, 19), ((7, 222), 7, 20), ((7, 154), 7, 21), ((7, 151), 7, 22), ((7, 157), 7, 23), ((7, 166), 7, 24), ((7, 163), 7, 25), ((7, 177), 7, 26), ((7, 194), 7, 27), ((7, 183), 7, 28), ((7, 187), 7, 29), ((7, 41), 7, 30), ((7, 44), 7, 31), ((7, 47), 7, 32), ((7, 293), 7, 33), ((7, 296), 7, 34), ((7, 304), 7, 35), ((7, 307), 7, 36), ((7, 321), 7, 37), ((7, 324), 7, 38), ((7, 327), 7, 39), ((7, 50), 7, 40), ((7, 53), 7, 41), ((7, 56), 7, 42), ((7, 59), 7, 43), ((7, 62), 7, 44), ((7, 365), 7, 45), ((7, 368), 7, 46), ((7, 371), 7, 47), ((7, 65), 7, 48), ((7, 69), 7, 49), ((7, 72), 7, 50), ((7, 75), 7, 51)]
/-- key : kind, method (0 static, 1 static of the host, 2 virtual, 3 constructor, 4 Object, 5 arraycopy, 6 String.length, 7 String.charAt) -/
def zzML : List ((Nat × Nat) × Nat × Nat) := [((8, 9), 3, 81), ((6, 3), 4, 0), ((6, 11), 3, 74), ((5, 3), 4, 0), ((6, 18), 3, 39), ((2, 3), 4, 0), ((6, 27), 3, 0), ((0, 3), 4, 0), ((0, 44), 1, 128), ((6, 44), 3, 61), ((3, 3), 4, 0), ((6, 51), 3, 29), ((1, 3), 4, 0), ((6, 62), 3, 67), ((4, 3), 4, 0), ((6, 65), 6, 0), ((6, 71), 7, 0), ((6, 75), 2, 40), ((2, 26), 1, 126), ((6, 79), 2, 41), ((2, 33), 2, 75), ((2, 38), 2, 51), ((2, 85), 2, 57), ((2, 149), 1, 125), ((2, 89), 0, 58), ((2, 92), 0, 59), ((2, 95), 2, 52), ((2, 107), 0, 54), ((2, 111), 2, 53), ((2, 115), 6, 0), ((2, 121), 7, 0), ((2, 54), 2, 50), ((2, 98), 0, 60), ((2, 101), 2, 55), ((2, 104), 2, 56), ((2, 41), 2, 49), ((2, 45), 2, 42), ((2, 60), 2, 43), ((2, 66), 2, 44), ((2, 69), 2, 48), ((2, 63), 2, 76), ((5, 28), 1, 126), ((2, 73), 2, 45), ((2, 76), 2, 46), ((2, 79), 2, 47), ((2, 48), 2, 77), ((2, 57), 2, 78), ((8, 13), 2, 82), ((6, 82), 2, 83), ((6, 86), 2, 2), ((6, 94), 0, 127), ((6, 179), 0, 125), ((6, 268), 0, 126), ((8, 18), 2, 84), ((6, 111), 2, 3), ((0, 55), 1, 126), ((8, 23), 2, 85), ((6, 114), 2, 9), ((6, 117), 2, 7), ((6, 120), 2, 11), ((0, 63), 2, 7), ((8, 27), 2, 86), ((6, 124), 2, 5), ((0, 59), 1, 125), ((6, 127), 2, 6), ((6, 130), 2, 4), ((6, 133), 2, 21), ((0, 77), 2, 8), ((0, 116), 2, 20), ((0, 93), 2, 5), ((0, 96), 2, 17), ((0, 84), 1, 130), ((0, 67), 2, 9), ((0, 87), 1, 131), ((0, 99), 2, 6), ((0, 102), 2, 16), ((0, 106), 2, 79), ((5, 32), 1, 125), ((5, 36), 0, 80), ((0, 112), 1, 135), ((0, 119), 2, 4), ((0, 122), 2, 18), ((0, 81), 2, 19), ((0, 90), 2, 2), ((0, 125), 1, 132), ((6, 136), 2, 22), ((0, 129), 1, 133), ((6, 139), 2, 17), ((6, 142), 2, 18), ((8, 31), 2, 87), ((8, 36), 2, 88), ((8, 40), 2, 89), ((8, 45), 2, 90), ((8, 49), 2, 91), ((6, 150), 2, 24), ((0, 136), 2, 21), ((6, 153), 2, 25), ((0, 139), 2, 23), ((0, 132), 1, 134), ((6, 156), 2, 27), ((8, 53), 2, 92), ((6, 160), 0, 93), ((6, 163), 2, 62), ((3, 41), 2, 22), ((3, 44), 1, 126), ((6, 167), 2, 63), ((3, 48), 1, 128), ((3, 52), 2, 64), ((3, 56), 1, 125), ((3, 60), 2, 65), ((6, 170), 2, 66), ((8, 57), 2, 94), ((6, 183), 0, 100), ((6, 186), 2, 10), ((6, 190), 2, 101), ((6, 216), 2, 1), ((0, 51), 1, 129), ((6, 303), 5, 0), ((8, 61), 2, 95), ((6, 193), 2, 8), ((6, 196), 2, 102), ((6, 236), 2, 12), ((0, 70), 2, 11), ((8, 65), 2, 96), ((6, 199), 2, 15), ((6, 202), 2, 19), ((6, 205), 2, 16), ((8, 69), 2, 97), ((6, 208), 2, 124), ((6, 212), 2, 30), ((1, 21), 2, 69), ((1, 32), 2, 72), ((4, 26), 1, 125), ((1, 36), 1, 126), ((1, 40), 2, 31), ((1, 48), 1, 125), ((1, 44), 2, 32), ((1, 52), 2, 2), ((1, 58), 2, 9), ((1, 61), 2, 33), ((6, 220), 2, 34), ((1, 64), 2, 35), ((1, 84), 2, 11), ((1, 68), 2, 25), ((1, 75), 2, 36), ((1, 81), 2, 37), ((1, 88), 2, 38), ((8, 73), 2, 98), ((6, 229), 2, 14), ((0, 74), 2, 13), ((6, 232), 2, 103), ((8, 77), 2, 99), ((8, 81), 2, 104), ((6, 239), 2, 69), ((6, 247), 2, 108), ((6, 255), 2, 28), ((0, 142), 2, 72), ((6, 251), 2, 109), ((6, 259), 2, 105), ((6, 262), 2, 106), ((6, 265), 2, 107), ((8, 85), 2, 110), ((6, 272), 2, 68), ((4, 22), 1, 128), ((6, 275), 2, 73), ((4, 30), 1, 126), ((8, 89), 2, 111), ((6, 279), 2, 13), ((8, 93), 2, 112), ((6, 284), 2, 111), ((6, 287), 0, 113), ((8, 98), 2, 114), ((8, 102), 2, 115), ((8, 106), 2, 116), ((6, 290), 2, 26), ((8, 110), 2, 117), ((8, 114), 2, 118), ((6, 293), 2, 70), ((8, 118), 2, 119), ((6, 297), 2, 71), ((8, 123), 2, 120), ((6, 309), 2, 72), ((6, 312), 2, 84), ((8, 128), 2, 121), ((6, 315), 0, 122), ((6, 318), 0, 123), ((8, 12), 3, 138), ((7, 7), 4, 0), ((7, 78), 2, 139), ((8, 17), 2, 143), ((7, 88), 0, 136), ((7, 94), 2, 140), ((7, 106), 2, 142), ((7, 110), 2, 148), ((7, 133), 2, 175), ((7, 143), 2, 172), ((7, 265), 2, 169), ((7, 268), 2, 171), ((7, 278), 2, 174), ((7, 140), 2, 170), ((7, 271), 2, 173), ((7, 262), 2, 166), ((7, 200), 2, 152), ((7, 160), 2, 151), ((7, 203), 2, 155), ((7, 190), 2, 154), ((7, 258), 2, 165), ((7, 197), 2, 153), ((7, 236), 2, 164), ((7, 255), 2, 163), ((7, 247), 2, 162), ((7, 228), 2, 157), ((7, 250), 2, 161), ((7, 242), 2, 160), ((7, 232), 2, 159), ((7, 225), 2, 156), ((7, 239), 2, 158), ((7, 274), 0, 137), ((7, 137), 2, 176), ((7, 114), 2, 144), ((8, 22), 2, 145), ((8, 26), 2, 147), ((7, 126), 0, 141), ((7, 129), 2, 146), ((8, 30), 2, 148), ((8, 35), 2, 149), ((8, 39), 2, 150), ((8, 44), 2, 167), ((8, 48), 2, 168), ((8, 52), 2, 180), ((7, 287), 2, 178), ((7, 290), 2, 179), ((7, 281), 2, 177), ((8, 56), 2, 182), ((7, 301), 2, 181), ((8, 60), 2, 183), ((8, 64), 2, 186), ((7, 313), 2, 185), ((7, 310), 2, 184), ((8, 68), 2, 188), ((7, 316), 2, 187), ((8, 72), 2, 193), ((7, 334), 0, 206), ((7, 337), 2, 189), ((7, 340), 2, 191), ((7, 330), 2, 190), ((7, 343), 2, 192), ((8, 76), 2, 194), ((8, 80), 2, 195), ((8, 84), 2, 198), ((7, 346), 2, 196), ((7, 351), 2, 197), ((8, 88), 2, 199), ((7, 354), 2, 207), ((8, 92), 2, 201), ((7, 358), 2, 200), ((8, 97), 2, 202), ((8, 101), 2, 203), ((8, 105), 2, 204), ((8, 109), 2, 205), ((8, 113), 2, 207), ((8, 117), 2, 208), ((8, 122), 2, 209), ((8, 127), 2, 210), ((7, 380), 2, 145), ((8, 131), 2, 212), ((7, 383), 0, 211)]
def zzCL : List ((Nat × Nat) × Nat) := [((8, 7), 6), ((6, 9), 5), ((6, 16), 2), ((6, 25), 0), ((6, 42), 3), ((6, 49), 1), ((6, 56), 4), ((8, 10), 7)]
def zzKI : List ((Nat × Nat) × Int32) := [((6, 159), (-100000)), ((6, 278), 1103515245), ((7, 286), (-100000)), ((7, 357), 1103515245)]
def zzKL : List ((Nat × Nat) × Int64) := [((6, 282), (-4611686018427387904)), ((7, 104), 3), ((7, 98), 99), ((7, 100), 999), ((7, 102), 9), ((7, 169), 97), ((7, 171), 122), ((7, 173), 48), ((7, 175), 57), ((7, 181), 10), ((7, 245), 43), ((7, 253), 60), ((7, 124), 5), ((7, 92), 23), ((7, 146), 255), ((7, 284), 2), ((7, 299), 29), ((7, 319), 12), ((7, 349), 39), ((7, 376), (-1)), ((7, 361), 20), ((7, 363), (-4611686018427387904)), ((7, 374), 4), ((7, 378), 8)]
def zzKS : List ((Nat × Nat) × Nat) := [((6, 63), 0), ((2, 125), 1), ((2, 127), 2), ((2, 129), 3), ((2, 131), 4), ((2, 133), 5), ((2, 135), 6), ((2, 137), 7), ((2, 139), 8), ((2, 141), 9), ((2, 143), 10), ((2, 145), 11), ((2, 147), 12)]
def zzKt : List String := ["sounds 5 + row ; turns row ; joys beside ;", "row", "column", "mile", "number", "beside", "friend", "sounds", "turns", "joys", "or", "and", "not"]
def zzKc : List (List Nat) := [[115, 111, 117, 110, 100, 115, 32, 53, 32, 43, 32, 114, 111, 119, 32, 59, 32, 116, 117, 114, 110, 115, 32, 114, 111, 119, 32, 59, 32, 106, 111, 121, 115, 32, 98, 101, 115, 105, 100, 101, 32, 59], [114, 111, 119], [99, 111, 108, 117, 109, 110], [109, 105, 108, 101], [110, 117, 109, 98, 101, 114], [98, 101, 115, 105, 100, 101], [102, 114, 105, 101, 110, 100], [115, 111, 117, 110, 100, 115], [116, 117, 114, 110, 115], [106, 111, 121, 115], [111, 114], [97, 110, 100], [110, 111, 116]]
def zzNest : List (Nat × Nat × Nat) := [(0, 44, 128), (2, 26, 126), (2, 149, 125), (5, 28, 126), (0, 55, 126), (0, 59, 125), (0, 84, 130), (0, 87, 131), (5, 32, 125), (0, 112, 135), (0, 125, 132), (0, 129, 133), (0, 132, 134), (3, 44, 126), (3, 48, 128), (3, 56, 125), (0, 51, 129), (4, 26, 125), (1, 36, 126), (1, 48, 125), (4, 22, 128), (4, 30, 126)]
/-- the first of a key -/
def zzGet {α : Type} (l : List ((Nat × Nat) × α)) (a b : Nat) : Option α := match l with
  | [] => none
  | q :: l => if q.1.1 = a ∧ q.1.2 = b then some q.2 else zzGet l a b
theorem zzGet_mem {α : Type} {l : List ((Nat × Nat) × α)} {a b : Nat} {v : α} (h : zzGet l a b = some v) : ((a, b), v) ∈ l := by
  induction l with
  | nil => cases h
  | cons q l ih =>
    obtain ⟨⟨x, y⟩, w⟩ := q
    unfold zzGet at h
    split at h
    · next c =>
      obtain ⟨c1, c2⟩ := c
      dsimp only at c1 c2
      subst c1; subst c2
      cases h
      exact List.mem_cons_self
    · exact List.mem_cons_of_mem _ (ih h)
def zzGw : Cond → Bool := goodWord
def ZW : List Cond := lw_tbl.filter goodWord
theorem ZW_of {w : Cond} (h : w ∈ lw_tbl) (g : goodWord w = true) : w ∈ ZW := List.mem_filter.mpr ⟨h, g⟩
theorem zzPos {ws : List Cond} (ps : List Nat) (h : ws = ps.filterMap (fun i => lw_tbl[i]?)) (g : ws.all goodWord = true) : ∀ w ∈ ws, w ∈ lw_tbl ∧ goodWord w = true := by
  intro w hw
  refine ⟨?_, List.all_eq_true.mp g w hw⟩
  rw [h] at hw
  obtain ⟨i, -, hi⟩ := List.mem_filterMap.mp hw
  exact List.mem_of_getElem? hi
set_option maxRecDepth 100000 in
theorem zzFLwL : ∀ w ∈ zzFL.map (fun r => Jvm.Cond.fieldLink (zzR r.1.1) r.1.2 (zzR r.2.1) (zzTf r.2.1 r.2.2).2.1 (zzTf r.2.1 r.2.2).2.2.1), w ∈ lw_tbl ∧ goodWord w = true := zzPos [105, 106, 107, 108, 109, 110, 129, 130, 131, 132, 133, 134, 135, 136, 161, 162, 163, 164, 165, 166, 167, 168, 169, 170, 171, 172, 173, 174, 175, 176, 177, 178, 179, 180, 181, 211, 212, 213, 214, 215, 216, 217, 218, 219, 241, 242, 243, 244, 245, 246, 247, 248, 269, 270, 271, 272, 273, 274, 275, 449, 450, 451, 452, 453, 454, 455, 456, 457, 921, 922, 923, 924, 925, 926, 927, 928, 929, 930, 931, 932, 933, 934, 935, 936, 937, 938, 939, 940, 941, 942, 943, 944, 945, 946, 947, 948, 949, 950, 951, 952, 953, 954, 955, 956, 957, 958, 959, 960, 961, 962, 963, 964, 965, 966, 967, 968, 969, 970, 971] (by decide +kernel) (by decide +kernel)
theorem zzFLw : ∀ r ∈ zzFL, Jvm.Cond.fieldLink (zzR r.1.1) r.1.2 (zzR r.2.1) (zzTf r.2.1 r.2.2).2.1 (zzTf r.2.1 r.2.2).2.2.1 ∈ lw_tbl ∧ goodWord (Jvm.Cond.fieldLink (zzR r.1.1) r.1.2 (zzR r.2.1) (zzTf r.2.1 r.2.2).2.1 (zzTf r.2.1 r.2.2).2.2.1) = true := fun r hr => zzFLwL _ (List.mem_map.mpr ⟨r, hr, rfl⟩)
def zzRow0 : zzRow := (objectInit, ⟨#[]⟩, 0, none, 0, 0, 0, [])
def zzM (y : Nat) : zzRow := zzMs.getD y zzRow0
set_option maxRecDepth 100000 in
theorem zzMp_0 : (([156, 690, 489, 502, 537, 528, 533, 515, 545, 511, 682, 519, 709, 791, 787, 718, 566, 554, 582, 586] : List Nat).map fun i => lw_tbl[i]?) = (zzMs_0).map fun r => some (Jvm.Cond.code r.1 r.2.1 r.2.2.1 r.2.2.2.1) := by decide +kernel
set_option maxRecDepth 100000 in
theorem zzMp_1 : (([549, 541, 594, 632, 623, 628, 874, 639, 812, 239, 732, 746, 751, 757, 761, 765, 771, 775, 779, 127] : List Nat).map fun i => lw_tbl[i]?) = (zzMs_1).map fun r => some (Jvm.Cond.code r.1 r.2.1 r.2.2.1 r.2.2.2.1) := by decide +kernel
set_option maxRecDepth 100000 in
theorem zzMp_2 : (([335, 342, 411, 415, 419, 432, 436, 440, 423, 407, 392, 350, 367, 386, 370, 399, 403, 354, 360, 363] : List Nat).map fun i => lw_tbl[i]?) = (zzMs_2).map fun r => some (Jvm.Cond.code r.1 r.2.1 r.2.2.1 r.2.2.2.1) := by decide +kernel
set_option maxRecDepth 100000 in
theorem zzMp_3 : (([395, 209, 651, 657, 662, 667, 671, 267, 837, 736, 886, 894, 740, 842, 103, 346, 427, 444, 448, 570] : List Nat).map fun i => lw_tbl[i]?) = (zzMs_3).map fun r => some (Jvm.Cond.code r.1 r.2.1 r.2.2.1 r.2.2.2.1) := by decide +kernel
set_option maxRecDepth 100000 in
theorem zzMp_4 : (([574, 95, 481, 485, 498, 507, 524, 603, 607, 611, 615, 619, 644, 647, 675, 700, 714, 724, 783, 799] : List Nat).map fun i => lw_tbl[i]?) = (zzMs_4).map fun r => some (Jvm.Cond.code r.1 r.2.1 r.2.2.1 r.2.2.2.1) := by decide +kernel
set_option maxRecDepth 100000 in
theorem zzMp_5 : (([678, 686, 705, 795, 803, 821, 825, 829, 808, 817, 833, 847, 853, 858, 862, 866, 870, 878, 882, 890] : List Nat).map fun i => lw_tbl[i]?) = (zzMs_5).map fun r => some (Jvm.Cond.code r.1 r.2.1 r.2.2.1 r.2.2.2.1) := by decide +kernel
set_option maxRecDepth 100000 in
theorem zzMp_6 : (([898, 904, 907, 910, 728, 357, 338, 492, 160, 693, 557, 561, 590, 597, 635, 577, 1085, 1202, 915, 920] : List Nat).map fun i => lw_tbl[i]?) = (zzMs_6).map fun r => some (Jvm.Cond.code r.1 r.2.1 r.2.2.1 r.2.2.2.1) := by decide +kernel
set_option maxRecDepth 100000 in
theorem zzMp_7 : (([1089, 1222, 1093, 1081, 1210, 1214, 1227, 1219, 1100, 1232, 1236, 1140, 1136, 1161, 1153, 1149, 1193, 1177, 1197, 1189] : List Nat).map fun i => lw_tbl[i]?) = (zzMs_7).map fun r => some (Jvm.Cond.code r.1 r.2.1 r.2.2.1 r.2.2.2.1) := by decide +kernel
set_option maxRecDepth 100000 in
theorem zzMp_8 : (([1185, 1181, 1173, 1169, 1165, 1157, 1132, 1241, 1245, 1112, 1124, 1116, 1108, 1128, 1120, 1104, 1206, 1263, 1255, 1259] : List Nat).map fun i => lw_tbl[i]?) = (zzMs_8).map fun r => some (Jvm.Cond.code r.1 r.2.1 r.2.2.1 r.2.2.2.1) := by decide +kernel
set_option maxRecDepth 100000 in
theorem zzMp_9 : (([1249, 1272, 1267, 1276, 1288, 1284, 1280, 1296, 1292, 1307, 1316, 1312, 1320, 1300, 1324, 1328, 1337, 1341, 1332, 1345] : List Nat).map fun i => lw_tbl[i]?) = (zzMs_9).map fun r => some (Jvm.Cond.code r.1 r.2.1 r.2.2.1 r.2.2.2.1) := by decide +kernel
set_option maxRecDepth 100000 in
theorem zzMp_10 : (([1358, 1354, 1363, 1369, 1373, 1377, 1303, 1349, 1383, 1387, 1391, 1400, 1397] : List Nat).map fun i => lw_tbl[i]?) = (zzMs_10).map fun r => some (Jvm.Cond.code r.1 r.2.1 r.2.2.1 r.2.2.2.1) := by decide +kernel
theorem zzMp_in {ps : List Nat} {rs : List zzRow} (h : (ps.map fun i => lw_tbl[i]?) = rs.map fun r => some (Jvm.Cond.code r.1 r.2.1 r.2.2.1 r.2.2.2.1)) : ∀ r ∈ rs, Jvm.Cond.code r.1 r.2.1 r.2.2.1 r.2.2.2.1 ∈ ZW := by
  intro r hr
  have h1 : some (Jvm.Cond.code r.1 r.2.1 r.2.2.1 r.2.2.2.1) ∈ rs.map fun r => some (Jvm.Cond.code r.1 r.2.1 r.2.2.1 r.2.2.2.1) := List.mem_map.mpr ⟨r, hr, rfl⟩
  rw [← h] at h1
  obtain ⟨i, -, hi⟩ := List.mem_map.mp h1
  exact ZW_of (List.mem_of_getElem? hi) rfl
def zzLaw : Nat := 213
theorem zzMw : ∀ y, y < 213 → Jvm.Cond.code (zzM y).1 (zzM y).2.1 (zzM y).2.2.1 (zzM y).2.2.2.1 ∈ ZW := by
  have h : ∀ r ∈ zzMsA, Jvm.Cond.code r.1 r.2.1 r.2.2.1 r.2.2.2.1 ∈ ZW := List.forall_mem_append.mpr ⟨zzMp_in zzMp_0, List.forall_mem_append.mpr ⟨zzMp_in zzMp_1, List.forall_mem_append.mpr ⟨zzMp_in zzMp_2, List.forall_mem_append.mpr ⟨zzMp_in zzMp_3, List.forall_mem_append.mpr ⟨zzMp_in zzMp_4, List.forall_mem_append.mpr ⟨zzMp_in zzMp_5, List.forall_mem_append.mpr ⟨zzMp_in zzMp_6, List.forall_mem_append.mpr ⟨zzMp_in zzMp_7, List.forall_mem_append.mpr ⟨zzMp_in zzMp_8, List.forall_mem_append.mpr ⟨zzMp_in zzMp_9, zzMp_in zzMp_10⟩⟩⟩⟩⟩⟩⟩⟩⟩⟩
  intro y hy
  have e : zzMsA.length = 213 := by decide +kernel
  refine h (zzM y) ?_
  unfold zzM zzMs
  rw [List.getD_eq_getElem?_getD, List.getElem?_append_left (by rw [e]; exact hy), List.getElem?_eq_getElem (by rw [e]; exact hy)]
  exact List.getElem_mem _
theorem zzMd : ∀ y, ∀ q ∈ (zzM y).2.2.2.2.2.2.2, decode (zzM y).2.1 q.1 = .ok q.2 := by
  intro y
  unfold zzM
  rw [List.getD_eq_getElem?_getD]
  cases h : zzMs[y]? with
  | none => intro q hq; cases hq
  | some r => exact zzMk r (List.mem_of_getElem? h)
theorem zzCl_ok : ∀ c, c < 8 → vwCl[c]? = some (zzR c, zzTf c, zzN c) := by
  intro c hc
  match c, hc with
  | 0, _ => rfl
  | 1, _ => rfl
  | 2, _ => rfl
  | 3, _ => rfl
  | 4, _ => rfl
  | 5, _ => rfl
  | 6, _ => rfl
  | 7, _ => rfl
end
section
/-! the links (written by wip/whole/gen1.py) -/
def zzDv (t : Nat) : Value := match t with | 3 => .null | 2 => .long 0 | _ => .int 0
set_option maxRecDepth 100000 in
theorem zzTy_a : ∀ c, c < 8 → ∀ k, k < zzN c → (parseFieldDescriptor (zzTf c k).2.2.1 = some (zzTy c k)) := by decide +kernel
set_option maxRecDepth 100000 in
theorem zzTy_b : ∀ c, c < 8 → ∀ k, k < zzN c → (zzT c k = 0 → zzTy c k = .int) := by decide +kernel
set_option maxRecDepth 100000 in
theorem zzTy_c : ∀ c, c < 8 → ∀ k, k < zzN c → (zzT c k = 1 → zzTy c k = .boolean) := by decide +kernel
set_option maxRecDepth 100000 in
theorem zzTy_d : ∀ c, c < 8 → ∀ k, k < zzN c → (zzT c k = 2 → zzTy c k = .long) := by decide +kernel
set_option maxRecDepth 100000 in
theorem zzTy_e : ∀ c, c < 8 → ∀ k, k < zzN c → (zzT c k = 3 → fits (zzTy c k) (.ref 0) = true) := by decide +kernel
set_option maxRecDepth 100000 in
theorem zzTy_f : ∀ c, c < 8 → ∀ k, k < zzN c → (zzT c k = 3 → fits (zzTy c k) .null = true) := by decide +kernel
set_option maxRecDepth 100000 in
theorem zzTy_g : ∀ c, c < 8 → ∀ k, k < zzN c → (zzT c k = 3 → narrow (zzTy c k) .null = .null) := by decide +kernel
set_option maxRecDepth 100000 in
theorem zzTy_h : ∀ c, c < 8 → ∀ k, k < zzN c → ((zzTf c k).2.2.2 = zzFin c k) := by decide +kernel
set_option maxRecDepth 100000 in
theorem zzTy_i : ∀ c, c < 8 → ∀ k, k < zzN c → ((zzTf c k).1 = zzR c) := by decide +kernel
set_option maxRecDepth 100000 in
theorem zzTy_j : ∀ c, c < 8 → ∀ k, k < zzN c → (defaultValue (zzTy c k) = zzDv (zzT c k)) := by decide +kernel
theorem zzTy_ok : ∀ c, c < 8 → ∀ k, k < zzN c → parseFieldDescriptor (zzTf c k).2.2.1 = some (zzTy c k) ∧ (zzT c k = 0 → zzTy c k = .int) ∧ (zzT c k = 1 → zzTy c k = .boolean) ∧ (zzT c k = 2 → zzTy c k = .long) ∧ (zzT c k = 3 → fits (zzTy c k) (.ref 0) = true ∧ fits (zzTy c k) .null = true ∧ narrow (zzTy c k) .null = .null) ∧ (zzTf c k).2.2.2 = zzFin c k ∧ (zzTf c k).1 = zzR c ∧ defaultValue (zzTy c k) = zzDv (zzT c k) := fun c hc k hk => ⟨zzTy_a c hc k hk, zzTy_b c hc k hk, zzTy_c c hc k hk, zzTy_d c hc k hk, fun h => ⟨zzTy_e c hc k hk h, zzTy_f c hc k hk h, zzTy_g c hc k hk h⟩, zzTy_h c hc k hk, zzTy_i c hc k hk, zzTy_j c hc k hk⟩
theorem zzNm_ok : ∀ c, c < 8 → ∀ a, a < zzN c → ∀ b, b < zzN c → a ≠ b → (zzTf c a).2.1 ≠ (zzTf c b).2.1 := by
  intro c hc
  match c, hc with
  | 0, _ => exact nmX0
  | 1, _ => exact nmX1
  | 2, _ => exact nmX2
  | 3, _ => exact nmX3
  | 4, _ => exact nmX4
  | 5, _ => exact nmX5
  | 6, _ => exact nmX6
  | 7, _ => exact nmX7
set_option maxRecDepth 100000 in
theorem zzUw_0 : ∀ w ∈ u_ws RX0 TX0 11, w ∈ lw_tbl ∧ goodWord w = true := zzPos [182, 184, 186, 188, 190, 192, 194, 196, 198, 200, 202] (by decide +kernel) (by decide +kernel)
set_option maxRecDepth 100000 in
theorem zzUw_1 : ∀ w ∈ u_ws RX1 TX1 6, w ∈ lw_tbl ∧ goodWord w = true := zzPos [249, 251, 253, 255, 257, 259] (by decide +kernel) (by decide +kernel)
set_option maxRecDepth 100000 in
theorem zzUw_2 : ∀ w ∈ u_ws RX2 TX2 7, w ∈ lw_tbl ∧ goodWord w = true := zzPos [137, 139, 141, 143, 145, 147, 149] (by decide +kernel) (by decide +kernel)
set_option maxRecDepth 100000 in
theorem zzUw_3 : ∀ w ∈ u_ws RX3 TX3 7, w ∈ lw_tbl ∧ goodWord w = true := zzPos [220, 222, 224, 226, 228, 230, 232] (by decide +kernel) (by decide +kernel)
set_option maxRecDepth 100000 in
theorem zzUw_4 : ∀ w ∈ u_ws RX4 TX4 3, w ∈ lw_tbl ∧ goodWord w = true := zzPos [276, 278, 280] (by decide +kernel) (by decide +kernel)
set_option maxRecDepth 100000 in
theorem zzUw_5 : ∀ w ∈ u_ws RX5 TX5 5, w ∈ lw_tbl ∧ goodWord w = true := zzPos [111, 113, 115, 117, 119] (by decide +kernel) (by decide +kernel)
set_option maxRecDepth 100000 in
theorem zzUw_6 : ∀ w ∈ u_ws RX6 TX6 9, w ∈ lw_tbl ∧ goodWord w = true := zzPos [458, 460, 462, 464, 466, 468, 470, 472, 474] (by decide +kernel) (by decide +kernel)
set_option maxRecDepth 100000 in
theorem zzUw_7 : ∀ w ∈ u_ws RX7 TX7 52, w ∈ lw_tbl ∧ goodWord w = true := zzPos [972, 974, 976, 978, 980, 982, 984, 986, 988, 990, 992, 994, 996, 998, 1000, 1002, 1004, 1006, 1008, 1010, 1012, 1014, 1016, 1018, 1020, 1022, 1024, 1026, 1028, 1030, 1032, 1034, 1036, 1038, 1040, 1042, 1044, 1046, 1048, 1050, 1052, 1054, 1056, 1058, 1060, 1062, 1064, 1066, 1068, 1070, 1072, 1074] (by decide +kernel) (by decide +kernel)
theorem zzUw : ∀ c, c < 8 → ∀ w ∈ u_ws (zzR c) (zzTf c) (zzN c), w ∈ lw_tbl ∧ goodWord w = true := by
  intro c hc
  match c, hc with
  | 0, _ => exact zzUw_0
  | 1, _ => exact zzUw_1
  | 2, _ => exact zzUw_2
  | 3, _ => exact zzUw_3
  | 4, _ => exact zzUw_4
  | 5, _ => exact zzUw_5
  | 6, _ => exact zzUw_6
  | 7, _ => exact zzUw_7
theorem zzUW {c : Nat} (h : c < 8) : ∀ w ∈ u_ws (zzR c) (zzTf c) (zzN c), w ∈ ZW := fun w hw => ZW_of (zzUw c h w hw).1 (zzUw c h w hw).2
theorem zzFLr : ∀ r ∈ zzFL, r.2.1 < 8 ∧ r.2.2 < zzN r.2.1 := by decide +kernel
theorem zzNC : ∀ c, c < 8 → zzN c ≤ 60 := by decide +kernel
set_option maxRecDepth 100000 in
theorem zzKIwL : ∀ w ∈ zzKI.map (fun r => Jvm.Cond.constant (zzR r.1.1) r.1.2 r.2), w ∈ lw_tbl ∧ goodWord w = true := zzPos [640, 848, 1251, 1359] (by decide +kernel) (by decide +kernel)
theorem zzKIw : ∀ r ∈ zzKI, Jvm.Cond.constant (zzR r.1.1) r.1.2 r.2 ∈ lw_tbl ∧ goodWord (Jvm.Cond.constant (zzR r.1.1) r.1.2 r.2) = true := fun r hr => zzKIwL _ (List.mem_map.mpr ⟨r, hr, rfl⟩)
set_option maxRecDepth 100000 in
theorem zzKLwL : ∀ w ∈ zzKL.map (fun r => Jvm.Cond.constantLong (zzR r.1.1) r.1.2 r.2), w ∈ lw_tbl ∧ goodWord w = true := zzPos [854, 1082, 1094, 1095, 1096, 1141, 1142, 1143, 1144, 1145, 1198, 1199, 1215, 1223, 1237, 1250, 1268, 1308, 1333, 1350, 1364, 1365, 1378, 1392] (by decide +kernel) (by decide +kernel)
theorem zzKLw : ∀ r ∈ zzKL, Jvm.Cond.constantLong (zzR r.1.1) r.1.2 r.2 ∈ lw_tbl ∧ goodWord (Jvm.Cond.constantLong (zzR r.1.1) r.1.2 r.2) = true := fun r hr => zzKLwL _ (List.mem_map.mpr ⟨r, hr, rfl⟩)
set_option maxRecDepth 100000 in
theorem zzCLwL : ∀ w ∈ zzCL.map (fun r => Jvm.Cond.classLink (zzR r.1.1) r.1.2 (zzR r.2)), w ∈ lw_tbl ∧ goodWord w = true := zzPos [91, 99, 123, 152, 205, 235, 262, 911] (by decide +kernel) (by decide +kernel)
theorem zzCLw : ∀ r ∈ zzCL, Jvm.Cond.classLink (zzR r.1.1) r.1.2 (zzR r.2) ∈ lw_tbl ∧ goodWord (Jvm.Cond.classLink (zzR r.1.1) r.1.2 (zzR r.2)) = true := fun r hr => zzCLwL _ (List.mem_map.mpr ⟨r, hr, rfl⟩)
set_option maxRecDepth 100000 in
theorem zzCLn : ∀ r ∈ zzCL, r.2 < 8 := by decide +kernel
set_option maxRecDepth 100000 in
theorem zzCLjL : ∀ w ∈ zzCL.map (fun r => Jvm.Cond.instantiable (zzR r.2) (zzN r.2)), w ∈ lw_tbl ∧ goodWord w = true := zzPos [92, 100, 124, 153, 206, 236, 264, 912] (by decide +kernel) (by decide +kernel)
theorem zzCLj : ∀ r ∈ zzCL, Jvm.Cond.instantiable (zzR r.2) (zzN r.2) ∈ lw_tbl ∧ goodWord (Jvm.Cond.instantiable (zzR r.2) (zzN r.2)) = true := fun r hr => zzCLjL _ (List.mem_map.mpr ⟨r, hr, rfl⟩)
set_option maxRecDepth 100000 in
theorem zzCLkL : ∀ w ∈ zzCL.map (fun r => Jvm.Cond.initialized (zzR r.2)), w ∈ lw_tbl ∧ goodWord w = true := zzPos [78, 79, 80, 81, 82, 83, 84, 89] (by decide +kernel) (by decide +kernel)
theorem zzCLk : ∀ r ∈ zzCL, Jvm.Cond.initialized (zzR r.2) ∈ lw_tbl ∧ goodWord (Jvm.Cond.initialized (zzR r.2)) = true := fun r hr => zzCLkL _ (List.mem_map.mpr ⟨r, hr, rfl⟩)
theorem zzCLi : ∀ r ∈ zzCL, r.2 < 8 ∧ (Jvm.Cond.instantiable (zzR r.2) (zzN r.2) ∈ lw_tbl ∧ goodWord (Jvm.Cond.instantiable (zzR r.2) (zzN r.2)) = true) ∧ (Jvm.Cond.initialized (zzR r.2) ∈ lw_tbl ∧ goodWord (Jvm.Cond.initialized (zzR r.2)) = true) := fun r hr => ⟨zzCLn r hr, zzCLj r hr, zzCLk r hr⟩
/-- what a call wants of the words, by its kind -/
def zzMLc (r : (Nat × Nat) × Nat × Nat) : List Cond := match r.2.1 with
  | 0 => [.methodLink (zzR r.1.1) r.1.2 (zzM r.2.2).1, .static (zzM r.2.2).1, .initialized (zzM r.2.2).1.cls]
  | 1 => [.static (zzM r.2.2).1, .initialized (zzM r.2.2).1.cls]
  | 2 => [.methodLink (zzR r.1.1) r.1.2 (zzM r.2.2).1, .instanceMethod (zzM r.2.2).1, .selects (zzR (zzM r.2.2).2.2.2.2.1) (zzM r.2.2).1 (zzM r.2.2).1, .initialized (zzM r.2.2).1.cls]
  | 3 => [.methodLink (zzR r.1.1) r.1.2 (zzM r.2.2).1, .instanceMethod (zzM r.2.2).1, .initialized (zzM r.2.2).1.cls]
  | 4 => [.methodLink (zzR r.1.1) r.1.2 objectInit, .instanceMethod objectInit, .code objectInit ⟨#[0xb1]⟩ 1 none]
  | 5 => [.methodLink (zzR r.1.1) r.1.2 arraycopyName, .native arraycopyName, .static arraycopyName, .initialized "java/lang/System"]
  | 6 => [.methodLink (zzR r.1.1) r.1.2 yJ0_length_8abf5, .instanceMethod yJ0_length_8abf5, .selects RJ0 yJ0_length_8abf5 yJ0_length_8abf5, .initialized RJ0]
  | _ => [.methodLink (zzR r.1.1) r.1.2 yJ0_charAt_5068e, .instanceMethod yJ0_charAt_5068e, .selects RJ0 yJ0_charAt_5068e yJ0_charAt_5068e, .initialized RJ0]
def zzML_0 : List ((Nat × Nat) × Nat × Nat) := [((8, 9), 3, 81), ((6, 3), 4, 0), ((6, 11), 3, 74), ((5, 3), 4, 0), ((6, 18), 3, 39), ((2, 3), 4, 0), ((6, 27), 3, 0), ((0, 3), 4, 0), ((0, 44), 1, 128), ((6, 44), 3, 61), ((3, 3), 4, 0), ((6, 51), 3, 29), ((1, 3), 4, 0), ((6, 62), 3, 67), ((4, 3), 4, 0), ((6, 65), 6, 0), ((6, 71), 7, 0), ((6, 75), 2, 40), ((2, 26), 1, 126), ((6, 79), 2, 41), ((2, 33), 2, 75), ((2, 38), 2, 51), ((2, 85), 2, 57), ((2, 149), 1, 125), ((2, 89), 0, 58), ((2, 92), 0, 59), ((2, 95), 2, 52), ((2, 107), 0, 54), ((2, 111), 2, 53), ((2, 115), 6, 0), ((2, 121), 7, 0), ((2, 54), 2, 50), ((2, 98), 0, 60), ((2, 101), 2, 55), ((2, 104), 2, 56), ((2, 41), 2, 49), ((2, 45), 2, 42), ((2, 60), 2, 43), ((2, 66), 2, 44), ((2, 69), 2, 48), ((2, 63), 2, 76), ((5, 28), 1, 126), ((2, 73), 2, 45), ((2, 76), 2, 46), ((2, 79), 2, 47), ((2, 48), 2, 77), ((2, 57), 2, 78), ((8, 13), 2, 82), ((6, 82), 2, 83), ((6, 86), 2, 2), ((6, 94), 0, 127), ((6, 179), 0, 125), ((6, 268), 0, 126), ((8, 18), 2, 84), ((6, 111), 2, 3), ((0, 55), 1, 126), ((8, 23), 2, 85), ((6, 114), 2, 9), ((6, 117), 2, 7), ((6, 120), 2, 11), ((0, 63), 2, 7), ((8, 27), 2, 86), ((6, 124), 2, 5), ((0, 59), 1, 125), ((6, 127), 2, 6), ((6, 130), 2, 4), ((6, 133), 2, 21), ((0, 77), 2, 8), ((0, 116), 2, 20), ((0, 93), 2, 5), ((0, 96), 2, 17), ((0, 84), 1, 130), ((0, 67), 2, 9), ((0, 87), 1, 131), ((0, 99), 2, 6), ((0, 102), 2, 16), ((0, 106), 2, 79), ((5, 32), 1, 125), ((5, 36), 0, 80), ((0, 112), 1, 135), ((0, 119), 2, 4), ((0, 122), 2, 18), ((0, 81), 2, 19), ((0, 90), 2, 2), ((0, 125), 1, 132), ((6, 136), 2, 22), ((0, 129), 1, 133), ((6, 139), 2, 17), ((6, 142), 2, 18), ((8, 31), 2, 87)]
set_option maxRecDepth 100000 in
theorem zzMLv_0 : ∀ w ∈ zzML_0.flatMap zzMLc, w ∈ lw_tbl ∧ goodWord w = true := zzPos [93, 94, 78, 96, 97, 98, 101, 102, 79, 104, 97, 98, 125, 126, 80, 128, 97, 98, 154, 155, 81, 157, 97, 98, 159, 78, 207, 208, 82, 210, 97, 98, 237, 238, 83, 240, 97, 98, 265, 266, 84, 268, 97, 98, 284, 285, 286, 85, 294, 295, 296, 85, 332, 333, 334, 80, 337, 78, 339, 340, 341, 80, 343, 344, 345, 79, 347, 349, 0, 80, 351, 353, 1, 80, 356, 78, 358, 359, 80, 361, 362, 80, 364, 366, 2, 80, 368, 369, 80, 383, 385, 3, 80, 387, 285, 286, 85, 388, 295, 296, 85, 389, 391, 4, 80, 393, 394, 80, 396, 398, 5, 80, 400, 402, 6, 80, 404, 406, 7, 80, 408, 410, 8, 80, 412, 414, 9, 80, 416, 418, 10, 80, 420, 422, 11, 80, 424, 425, 426, 79, 337, 78, 429, 431, 12, 80, 433, 435, 13, 80, 437, 439, 14, 80, 441, 442, 443, 79, 445, 446, 447, 79, 478, 479, 480, 78, 482, 484, 15, 78, 486, 487, 488, 81, 490, 491, 78, 493, 356, 78, 494, 337, 78, 495, 496, 497, 78, 499, 500, 501, 81, 337, 78, 504, 505, 506, 78, 508, 509, 510, 81, 512, 513, 514, 81, 516, 517, 518, 81, 520, 513, 514, 81, 521, 522, 523, 78, 525, 526, 527, 81, 356, 78, 530, 531, 532, 81, 534, 535, 536, 81, 538, 539, 540, 81, 542, 543, 544, 81, 546, 547, 548, 81, 550, 526, 527, 81, 551, 552, 553, 81, 556, 78, 558, 509, 510, 81, 560, 78, 562, 531, 532, 81, 563, 564, 565, 81, 567, 568, 569, 79, 356, 78, 572, 573, 79, 576, 78, 578, 535, 536, 81, 579, 580, 581, 81, 583, 584, 585, 81, 587, 487, 488, 81, 589, 78, 591, 592, 593, 81, 596, 78, 598, 552, 553, 81, 599, 580, 581, 81, 600, 601, 602, 78] (by decide +kernel) (by decide +kernel)
theorem zzMLw_0 : ∀ r ∈ zzML_0, ∀ w ∈ zzMLc r, w ∈ lw_tbl ∧ goodWord w = true := fun r hr w hw => zzMLv_0 w (List.mem_flatMap.mpr ⟨r, hr, hw⟩)
def zzML_1 : List ((Nat × Nat) × Nat × Nat) := [((8, 36), 2, 88), ((8, 40), 2, 89), ((8, 45), 2, 90), ((8, 49), 2, 91), ((6, 150), 2, 24), ((0, 136), 2, 21), ((6, 153), 2, 25), ((0, 139), 2, 23), ((0, 132), 1, 134), ((6, 156), 2, 27), ((8, 53), 2, 92), ((6, 160), 0, 93), ((6, 163), 2, 62), ((3, 41), 2, 22), ((3, 44), 1, 126), ((6, 167), 2, 63), ((3, 48), 1, 128), ((3, 52), 2, 64), ((3, 56), 1, 125), ((3, 60), 2, 65), ((6, 170), 2, 66), ((8, 57), 2, 94), ((6, 183), 0, 100), ((6, 186), 2, 10), ((6, 190), 2, 101), ((6, 216), 2, 1), ((0, 51), 1, 129), ((6, 303), 5, 0), ((8, 61), 2, 95), ((6, 193), 2, 8), ((6, 196), 2, 102), ((6, 236), 2, 12), ((0, 70), 2, 11), ((8, 65), 2, 96), ((6, 199), 2, 15), ((6, 202), 2, 19), ((6, 205), 2, 16), ((8, 69), 2, 97), ((6, 208), 2, 124), ((6, 212), 2, 30), ((1, 21), 2, 69), ((1, 32), 2, 72), ((4, 26), 1, 125), ((1, 36), 1, 126), ((1, 40), 2, 31), ((1, 48), 1, 125), ((1, 44), 2, 32), ((1, 52), 2, 2), ((1, 58), 2, 9), ((1, 61), 2, 33), ((6, 220), 2, 34), ((1, 64), 2, 35), ((1, 84), 2, 11), ((1, 68), 2, 25), ((1, 75), 2, 36), ((1, 81), 2, 37), ((1, 88), 2, 38), ((8, 73), 2, 98), ((6, 229), 2, 14), ((0, 74), 2, 13), ((6, 232), 2, 103), ((8, 77), 2, 99), ((8, 81), 2, 104), ((6, 239), 2, 69), ((6, 247), 2, 108), ((6, 255), 2, 28), ((0, 142), 2, 72), ((6, 251), 2, 109), ((6, 259), 2, 105), ((6, 262), 2, 106), ((6, 265), 2, 107), ((8, 85), 2, 110), ((6, 272), 2, 68), ((4, 22), 1, 128), ((6, 275), 2, 73), ((4, 30), 1, 126), ((8, 89), 2, 111), ((6, 279), 2, 13), ((8, 93), 2, 112), ((6, 284), 2, 111), ((6, 287), 0, 113), ((8, 98), 2, 114), ((8, 102), 2, 115), ((8, 106), 2, 116), ((6, 290), 2, 26), ((8, 110), 2, 117), ((8, 114), 2, 118), ((6, 293), 2, 70), ((8, 118), 2, 119), ((6, 297), 2, 71)]
set_option maxRecDepth 100000 in
theorem zzMLv_1 : ∀ w ∈ zzML_1.flatMap zzMLc, w ∈ lw_tbl ∧ goodWord w = true := zzPos [604, 605, 606, 78, 608, 609, 610, 78, 612, 613, 614, 78, 616, 617, 618, 78, 620, 621, 622, 81, 624, 539, 540, 81, 625, 626, 627, 81, 629, 630, 631, 81, 634, 78, 636, 637, 638, 81, 641, 642, 643, 78, 645, 646, 78, 648, 649, 650, 82, 652, 592, 593, 81, 337, 78, 654, 655, 656, 82, 159, 78, 659, 661, 16, 82, 356, 78, 664, 666, 17, 82, 668, 669, 670, 82, 672, 673, 674, 78, 676, 677, 78, 679, 680, 681, 81, 683, 685, 18, 78, 687, 688, 689, 81, 692, 78, 694, 696, 695, 90, 697, 698, 699, 78, 701, 543, 544, 81, 702, 704, 19, 78, 706, 707, 708, 81, 710, 517, 518, 81, 711, 712, 713, 78, 715, 716, 717, 81, 719, 584, 585, 81, 720, 564, 565, 81, 721, 722, 723, 78, 725, 727, 20, 78, 729, 730, 731, 83, 733, 734, 735, 84, 737, 738, 739, 84, 356, 78, 337, 78, 743, 745, 21, 83, 356, 78, 748, 750, 22, 83, 752, 487, 488, 81, 753, 509, 510, 81, 754, 756, 23, 83, 758, 759, 760, 83, 762, 764, 24, 83, 766, 517, 518, 81, 767, 626, 627, 81, 768, 770, 25, 83, 772, 774, 26, 83, 776, 778, 27, 83, 780, 781, 782, 78, 784, 785, 786, 81, 788, 789, 790, 81, 792, 794, 28, 78, 796, 797, 798, 78, 800, 801, 802, 78, 804, 734, 735, 84, 805, 807, 29, 78, 809, 810, 811, 81, 813, 738, 739, 84, 814, 816, 30, 78, 818, 820, 31, 78, 822, 824, 32, 78, 826, 828, 33, 78, 830, 831, 832, 78, 834, 835, 836, 84, 159, 78, 839, 840, 841, 84, 337, 78, 844, 845, 846, 78, 849, 789, 790, 81, 850, 851, 852, 78, 855, 845, 846, 78, 856, 857, 78, 859, 860, 861, 78, 863, 864, 865, 78, 867, 868, 869, 78, 871, 872, 873, 81, 875, 876, 877, 78, 879, 880, 881, 78, 883, 884, 885, 84, 887, 888, 889, 78, 891, 892, 893, 84] (by decide +kernel) (by decide +kernel)
theorem zzMLw_1 : ∀ r ∈ zzML_1, ∀ w ∈ zzMLc r, w ∈ lw_tbl ∧ goodWord w = true := fun r hr w hw => zzMLv_1 w (List.mem_flatMap.mpr ⟨r, hr, hw⟩)
def zzML_2 : List ((Nat × Nat) × Nat × Nat) := [((8, 123), 2, 120), ((6, 309), 2, 72), ((6, 312), 2, 84), ((8, 128), 2, 121), ((6, 315), 0, 122), ((6, 318), 0, 123), ((8, 12), 3, 138), ((7, 7), 4, 0), ((7, 78), 2, 139), ((8, 17), 2, 143), ((7, 88), 0, 136), ((7, 94), 2, 140), ((7, 106), 2, 142), ((7, 110), 2, 148), ((7, 133), 2, 175), ((7, 143), 2, 172), ((7, 265), 2, 169), ((7, 268), 2, 171), ((7, 278), 2, 174), ((7, 140), 2, 170), ((7, 271), 2, 173), ((7, 262), 2, 166), ((7, 200), 2, 152), ((7, 160), 2, 151), ((7, 203), 2, 155), ((7, 190), 2, 154), ((7, 258), 2, 165), ((7, 197), 2, 153), ((7, 236), 2, 164), ((7, 255), 2, 163), ((7, 247), 2, 162), ((7, 228), 2, 157), ((7, 250), 2, 161), ((7, 242), 2, 160), ((7, 232), 2, 159), ((7, 225), 2, 156), ((7, 239), 2, 158), ((7, 274), 0, 137), ((7, 137), 2, 176), ((7, 114), 2, 144), ((8, 22), 2, 145), ((8, 26), 2, 147), ((7, 126), 0, 141), ((7, 129), 2, 146), ((8, 30), 2, 148), ((8, 35), 2, 149), ((8, 39), 2, 150), ((8, 44), 2, 167), ((8, 48), 2, 168), ((8, 52), 2, 180), ((7, 287), 2, 178), ((7, 290), 2, 179), ((7, 281), 2, 177), ((8, 56), 2, 182), ((7, 301), 2, 181), ((8, 60), 2, 183), ((8, 64), 2, 186), ((7, 313), 2, 185), ((7, 310), 2, 184), ((8, 68), 2, 188), ((7, 316), 2, 187), ((8, 72), 2, 193), ((7, 334), 0, 206), ((7, 337), 2, 189), ((7, 340), 2, 191), ((7, 330), 2, 190), ((7, 343), 2, 192), ((8, 76), 2, 194), ((8, 80), 2, 195), ((8, 84), 2, 198), ((7, 346), 2, 196), ((7, 351), 2, 197), ((8, 88), 2, 199), ((7, 354), 2, 207), ((8, 92), 2, 201), ((7, 358), 2, 200), ((8, 97), 2, 202), ((8, 101), 2, 203), ((8, 105), 2, 204), ((8, 109), 2, 205), ((8, 113), 2, 207), ((8, 117), 2, 208), ((8, 122), 2, 209), ((8, 127), 2, 210), ((7, 380), 2, 145), ((8, 131), 2, 212), ((7, 383), 0, 211)]
set_option maxRecDepth 100000 in
theorem zzMLv_2 : ∀ w ∈ zzML_2.flatMap zzMLc, w ∈ lw_tbl ∧ goodWord w = true := zzPos [895, 896, 897, 78, 899, 738, 739, 84, 900, 496, 497, 78, 901, 902, 903, 78, 905, 906, 78, 908, 909, 78, 913, 914, 89, 916, 97, 98, 917, 919, 34, 89, 1078, 1079, 1080, 89, 1083, 1084, 89, 1086, 1088, 35, 89, 1090, 1092, 36, 89, 1097, 1098, 1099, 89, 1101, 1103, 37, 89, 1105, 1107, 38, 89, 1109, 1111, 39, 89, 1113, 1115, 40, 89, 1117, 1119, 41, 89, 1121, 1123, 42, 89, 1125, 1127, 43, 89, 1129, 1131, 44, 89, 1133, 1135, 45, 89, 1137, 1139, 46, 89, 1146, 1148, 47, 89, 1150, 1152, 48, 89, 1154, 1156, 49, 89, 1158, 1160, 50, 89, 1162, 1164, 51, 89, 1166, 1168, 52, 89, 1170, 1172, 53, 89, 1174, 1176, 54, 89, 1178, 1180, 55, 89, 1182, 1184, 56, 89, 1186, 1188, 57, 89, 1190, 1192, 58, 89, 1194, 1196, 59, 89, 1200, 1201, 89, 1203, 1205, 60, 89, 1207, 1209, 61, 89, 1211, 1212, 1213, 89, 1216, 1217, 1218, 89, 1220, 1221, 89, 1224, 1226, 62, 89, 1228, 1098, 1099, 89, 1229, 1230, 1231, 89, 1233, 1234, 1235, 89, 1238, 1239, 1240, 89, 1242, 1243, 1244, 89, 1246, 1247, 1248, 89, 1252, 1254, 63, 89, 1256, 1258, 64, 89, 1260, 1262, 65, 89, 1264, 1265, 1266, 89, 1269, 1271, 66, 89, 1273, 1274, 1275, 89, 1277, 1278, 1279, 89, 1281, 1283, 67, 89, 1285, 1287, 68, 89, 1289, 1290, 1291, 89, 1293, 1295, 69, 89, 1297, 1298, 1299, 89, 1301, 1302, 89, 1304, 1306, 70, 89, 1309, 1311, 71, 89, 1313, 1315, 72, 89, 1317, 1319, 73, 89, 1321, 1322, 1323, 89, 1325, 1326, 1327, 89, 1329, 1330, 1331, 89, 1334, 1336, 74, 89, 1338, 1340, 75, 89, 1342, 1343, 1344, 89, 1346, 1347, 1348, 89, 1351, 1352, 1353, 89, 1355, 1357, 76, 89, 1360, 1361, 1362, 89, 1366, 1367, 1368, 89, 1370, 1371, 1372, 89, 1374, 1375, 1376, 89, 1379, 1347, 1348, 89, 1380, 1381, 1382, 89, 1384, 1385, 1386, 89, 1388, 1389, 1390, 89, 1393, 1212, 1213, 89, 1394, 1395, 1396, 89, 1398, 1399, 89] (by decide +kernel) (by decide +kernel)
theorem zzMLw_2 : ∀ r ∈ zzML_2, ∀ w ∈ zzMLc r, w ∈ lw_tbl ∧ goodWord w = true := fun r hr w hw => zzMLv_2 w (List.mem_flatMap.mpr ⟨r, hr, hw⟩)
theorem zzMLw : ∀ r ∈ zzML, ∀ w ∈ zzMLc r, w ∈ lw_tbl ∧ goodWord w = true := by
  have e : zzML = zzML_0 ++ (zzML_1 ++ (zzML_2)) := rfl
  rw [e]
  exact List.forall_mem_append.mpr ⟨zzMLw_0, List.forall_mem_append.mpr ⟨zzMLw_1, zzMLw_2⟩⟩
end
section
/-! the calls (written by wip/whole/gen1.py) -/
set_option maxRecDepth 100000 in
theorem zzMLr : ∀ r ∈ zzML, r.2.1 ≤ 3 → r.2.2 < 213 ∧ (zzM r.2.2).2.2.1 ≤ 21 ∧ (zzM r.2.2).2.2.2.2.1 < 8 ∧ (zzM r.2.2).1.cls = zzR (zzM r.2.2).2.2.2.2.1 ∧ (zzM r.2.2).1.cls ≠ "java/lang/invoke/MethodHandle" ∧ (zzM r.2.2).1.cls ≠ "java/lang/invoke/VarHandle" ∧ (parseMethodDescriptor (zzM r.2.2).1.desc).map (fun d => d.parameters.length) = some ((zzM r.2.2).2.2.2.2.2.1 - (if r.2.1 ≤ 1 then 0 else 1)) ∧ (r.2.1 = 0 → (zzM r.2.2).1.cls = zzR r.1.1) ∧ (r.2.1 = 3 → (zzM r.2.2).1.name = "<init>" ∧ (zzM r.2.2).2.2.2.1 = none) ∧ (2 ≤ r.2.1 → 1 ≤ (zzM r.2.2).2.2.2.2.2.1) := by decide +kernel
end
section
/-! the program as a function on a memory of numbers: what one instruction does, what a method does -/
/-- the cells' kinds and sizes (0 to 7: an object of that class; 8 ints, 9 booleans, 10 sheets), what each place holds: a reference, a long, an int -/
abbrev zzH : Type := List (Nat × Nat) × (Nat → Nat → Option Nat) × (Nat → Nat → Int64) × (Nat → Nat → Int32)
abbrev zzS : Type := Nat × List Value × List Value × zzH
abbrev zzIx (i : Int32) (n : Nat) : Prop := ¬ (i < 0 ∨ n ≤ i.toNatClampNeg)
def zzUp {α : Type} (f : Nat → Nat → α) (a k : Nat) (v : α) : Nat → Nat → α := fun x j => if x = a ∧ j = k then v else f x j
def zzRo {α : Type} (f : Nat → Nat → α) (a : Nat) (g : Nat → α) : Nat → Nat → α := fun x j => if x = a then g j else f x j
/-- a place of the locals of which nothing is known -/
def zzU : Value := .retAddr 0
def zzIs (t : Nat) (v : Value) : Bool := match t, v with
  | 1, .int _ => true
  | 2, .long _ => true
  | 3, .ref _ => true
  | 3, .null => true
  | _, _ => false
def zzLd (il : Instr × Nat) : Option (Nat × Nat) := match il with
  | (.iload i, 2) => some (i, 1)
  | (.iload_n k, 1) => some (k.val, 1)
  | (.lload i, 2) => some (i, 2)
  | (.lload_n k, 1) => some (k.val, 2)
  | (.aload i, 2) => some (i, 3)
  | (.aload_n k, 1) => some (k.val, 3)
  | _ => none
def zzSd (il : Instr × Nat) : Option (Nat × Nat) := match il with
  | (.istore i, 2) => some (i, 1)
  | (.istore_n k, 1) => some (k.val, 1)
  | (.lstore i, 2) => some (i, 2)
  | (.lstore_n k, 1) => some (k.val, 2)
  | (.astore i, 2) => some (i, 3)
  | (.astore_n k, 1) => some (k.val, 3)
  | _ => none
def zzPush (own : Nat) (il : Instr × Nat) : Option Value := match il with
  | (.iconst n, 1) => some (.int (Int32.ofInt n))
  | (.bipush n, 2) => some (.int (Int8.ofInt n).toInt32)
  | (.sipush n, 3) => some (.int (Int16.ofInt n).toInt32)
  | (.lconst n, 1) => some (.long (Int64.ofNat n.val))
  | (.aconst_null, 1) => some .null
  | (.ldc i, 2) => (match zzGet zzKS own i with
    | some k => some (.ref (1000 + k))
    | none => (zzGet zzKI own i).map .int)
  | (.ldc_w i, 3) => (zzGet zzKI own i).map .int
  | (.ldc2_w i, 3) => (zzGet zzKL own i).map .long
  | _ => none
/-- is a long ahead of that place -/
def zzLg (ls : List Value) (i : Nat) : Bool := match i with
  | 0 => false
  | j + 1 => (match ls[j]? with
    | some v => v.category == 2
    | none => false)
def zzSet (ls : List Value) (i t : Nat) (v : Value) : Option (List Value) :=
  if zzLg ls i = true then none
  else if t = 2 then (if i + 1 < ls.length then some ((ls.set i v).set (i + 1) zzU) else none)
  else if i < ls.length then some (ls.set i v) else none
def zzBi (il : Instr × Nat) : Option (Int32 → Int32 → Int32) := match il with
  | (.iadd, 1) => some (fun x y => x + y)
  | (.isub, 1) => some (fun x y => x - y)
  | (.imul, 1) => some (fun x y => x * y)
  | (.iand, 1) => some (fun x y => x &&& y)
  | (.ior, 1) => some (fun x y => x ||| y)
  | (.ishl, 1) => some (fun x y => x <<< (y &&& 31))
  | (.ishr, 1) => some (fun x y => x >>> (y &&& 31))
  | (.iushr, 1) => some (fun x y => (x.toUInt32 >>> (y.toUInt32 &&& Int32.toUInt32 31)).toInt32)
  | _ => none
def zzDi (il : Instr × Nat) : Option (Int32 → Int32 → Int32) := match il with
  | (.idiv, 1) => some (fun x y => x / y)
  | (.irem, 1) => some (fun x y => x - x / y * y)
  | _ => none
def zzUn (il : Instr × Nat) : Option (Int32 → Int32) := match il with
  | (.ineg, 1) => some (fun x => -x)
  | (.i2b, 1) => some (fun x => x.toInt8.toInt32)
  | (.i2s, 1) => some (fun x => x.toInt16.toInt32)
  | _ => none
def zzBl (il : Instr × Nat) : Option (Int64 → Int64 → Int64) := match il with
  | (.ladd, 1) => some (fun x y => x + y)
  | (.lsub, 1) => some (fun x y => x - y)
  | (.lmul, 1) => some (fun x y => x * y)
  | _ => none
def zzDl (il : Instr × Nat) : Option (Int64 → Int64 → Int64) := match il with
  | (.ldiv, 1) => some (fun x y => x / y)
  | (.lrem, 1) => some (fun x y => x - x / y * y)
  | _ => none
def zzCm (c : Jvm.ClassFile.Cond) (x y : Int32) : Bool := match c with
  | .eq => decide (x = y)
  | .ne => decide (¬ x = y)
  | .lt => decide (x < y)
  | .ge => decide (y ≤ x)
  | .gt => decide (y < x)
  | .le => decide (x ≤ y)
def zzTg (pc : Nat) (off : Int) : Option Nat := if 0 ≤ (pc : Int) + off then some ((pc : Int) + off).toNat else none
def zzFv (Z : zzH) (c a k : Nat) : Value := match zzT c k with
  | 3 => va_rf (Z.2.1 a k)
  | 2 => .long (Z.2.2.1 a k)
  | _ => .int (Z.2.2.2 a k)
def zzPut (Z : zzH) (c a k : Nat) (v : Value) : Option zzH := match zzT c k, v with
  | 0, .int x => some (Z.1, Z.2.1, Z.2.2.1, zzUp Z.2.2.2 a k x)
  | 1, .int x => if x = 0 ∨ x = 1 then some (Z.1, Z.2.1, Z.2.2.1, zzUp Z.2.2.2 a k x) else none
  | 2, .long x => some (Z.1, Z.2.1, zzUp Z.2.2.1 a k x, Z.2.2.2)
  | 3, .ref x => if x < 1000 then some (Z.1, zzUp Z.2.1 a k (some x), Z.2.2.1, Z.2.2.2) else none
  | 3, .null => some (Z.1, zzUp Z.2.1 a k none, Z.2.2.1, Z.2.2.2)
  | _, _ => none
def zzNew (Z : zzH) (c n : Nat) : zzH := (Z.1 ++ [(c, n)], zzRo Z.2.1 Z.1.length (fun _ => none), zzRo Z.2.2.1 Z.1.length (fun _ => 0), zzRo Z.2.2.2 Z.1.length (fun _ => 0))
def zzCat (st : List Value) : Nat := (st.map fun v => v.category).sum
def zzTx (k : Nat) : List Nat := zzKc.getD k []
/-- fields, arrays, what is made -/
def zzMem (own : Nat) (ini : Bool) (pc : Nat) (il : Instr × Nat) (ls st : List Value) (Z : zzH) : Option zzS := match il with
  | (.getfield i, 3) => (match st with
    | .ref a :: st => (match zzGet zzFL own i, Z.1[a]? with
      | some (c, k), some q => if q.1 = c then some (pc + 3, ls, zzFv Z c a k :: st, Z) else none
      | _, _ => none)
    | _ => none)
  | (.putfield i, 3) => (match st with
    | v :: .ref a :: st => (match zzGet zzFL own i, Z.1[a]? with
      | some (c, k), some q => if q.1 = c ∧ (zzFin c k = false ∨ (ini = true ∧ own = c)) then (zzPut Z c a k v).map (fun Z' => (pc + 3, ls, st, Z')) else none
      | _, _ => none)
    | _ => none)
  | (.iaload, 1) => (match st with
    | .int i :: .ref a :: st => if a = 2000 then (if zzIx i (Z.2.2.1 2000 0).toNatClampNeg then some (pc + 1, ls, .int (Z.2.2.2 2000 i.toNatClampNeg) :: st, Z) else none) else (match Z.1[a]? with
      | some q => if q.1 = 8 ∧ zzIx i q.2 then some (pc + 1, ls, .int (Z.2.2.2 a i.toNatClampNeg) :: st, Z) else none
      | _ => none)
    | _ => none)
  | (.iastore, 1) => (match st with
    | .int x :: .int i :: .ref a :: st => (match Z.1[a]? with
      | some q => if q.1 = 8 ∧ zzIx i q.2 then some (pc + 1, ls, st, (Z.1, Z.2.1, Z.2.2.1, zzUp Z.2.2.2 a i.toNatClampNeg x)) else none
      | _ => none)
    | _ => none)
  | (.baload, 1) => (match st with
    | .int i :: .ref a :: st => (match Z.1[a]? with
      | some q => if q.1 = 9 ∧ zzIx i q.2 then some (pc + 1, ls, .int (Z.2.2.2 a i.toNatClampNeg) :: st, Z) else none
      | _ => none)
    | _ => none)
  | (.bastore, 1) => (match st with
    | .int x :: .int i :: .ref a :: st => (match Z.1[a]? with
      | some q => if q.1 = 9 ∧ zzIx i q.2 ∧ (x = 0 ∨ x = 1) then some (pc + 1, ls, st, (Z.1, Z.2.1, Z.2.2.1, zzUp Z.2.2.2 a i.toNatClampNeg x)) else none
      | _ => none)
    | _ => none)
  | (.aaload, 1) => (match st with
    | .int i :: .ref a :: st => (match Z.1[a]? with
      | some q => if q.1 = 10 ∧ zzIx i q.2 then some (pc + 1, ls, va_rf (Z.2.1 a i.toNatClampNeg) :: st, Z) else none
      | _ => none)
    | _ => none)
  | (.aastore, 1) => (match st with
    | .ref v :: .int i :: .ref a :: st => (match Z.1[a]?, Z.1[v]? with
      | some q, some w => if q.1 = 10 ∧ w.1 = 4 ∧ zzIx i q.2 then some (pc + 1, ls, st, (Z.1, zzUp Z.2.1 a i.toNatClampNeg (some v), Z.2.2.1, Z.2.2.2)) else none
      | _, _ => none)
    | _ => none)
  | (.arraylength, 1) => (match st with
    | .ref a :: st => if a = 2000 then some (pc + 1, ls, .int (Int32.ofNat (Z.2.2.1 2000 0).toNatClampNeg) :: st, Z) else (match Z.1[a]? with
      | some q => if 8 ≤ q.1 then some (pc + 1, ls, .int (Int32.ofNat q.2) :: st, Z) else none
      | _ => none)
    | _ => none)
  | (.new i, 3) => (match zzGet zzCL own i with
    | some c => if Z.1.length < 1000 then some (pc + 3, ls, .ref Z.1.length :: st, zzNew Z c (zzN c)) else none
    | none => none)
  | (.newarray .int, 2) => (match st with
    | .int n :: st => if Z.1.length < 1000 ∧ ¬ n < 0 ∧ n.toNatClampNeg ≤ 100000 then some (pc + 2, ls, .ref Z.1.length :: st, zzNew Z 8 n.toNatClampNeg) else none
    | _ => none)
  | (.newarray .boolean, 2) => (match st with
    | .int n :: st => if Z.1.length < 1000 ∧ ¬ n < 0 ∧ n.toNatClampNeg ≤ 100000 then some (pc + 2, ls, .ref Z.1.length :: st, zzNew Z 9 n.toNatClampNeg) else none
    | _ => none)
  | (.anewarray i, 3) => (match st with
    | .int n :: st => if Z.1.length < 1000 ∧ ¬ n < 0 ∧ n.toNatClampNeg ≤ 100000 ∧ zzGet zzCL own i = some 4 then some (pc + 3, ls, .ref Z.1.length :: st, zzNew Z 10 n.toNatClampNeg) else none
    | _ => none)
  | _ => none
/-- what is not walked: Object's constructor, arraycopy, the two methods of a text -/
def zzPrim (own : Nat) (pc : Nat) (il : Instr × Nat) (ls st : List Value) (Z : zzH) : Option zzS := match il with
  | (.invokespecial i, 3) => (match zzGet zzML own i, st with
    | some (4, _), .ref _ :: st => if zzCat st ≤ 8 then some (pc + 3, ls, st, Z) else none
    | _, _ => none)
  | (.invokestatic i, 3) => (match zzGet zzML own i, st with
    | some (5, _), .int n :: .int dp :: .ref a :: .int sp :: .ref b :: st => (match Z.1[a]?, Z.1[b]? with
      | some q, some w => if zzCat st ≤ 8 ∧ q.1 = 8 ∧ w.1 = 8 ∧ ¬ sp < 0 ∧ ¬ dp < 0 ∧ ¬ n < 0 ∧ sp.toNatClampNeg + n.toNatClampNeg ≤ w.2 ∧ dp.toNatClampNeg + n.toNatClampNeg ≤ q.2 then
          some (pc + 3, ls, st, (Z.1, Z.2.1, Z.2.2.1, zzRo Z.2.2.2 a (va_cpy (Z.2.2.2 b) (Z.2.2.2 a) sp.toNatClampNeg dp.toNatClampNeg n.toNatClampNeg))) else none
      | _, _ => none)
    | _, _ => none)
  | (.invokevirtual i, 3) => (match zzGet zzML own i, st with
    | some (6, _), .ref a :: st => if 1000 ≤ a ∧ a < 1013 ∧ zzCat st ≤ 8 then some (pc + 3, ls, .int (Int32.ofNat (zzTx (a - 1000)).length) :: st, Z) else none
    | some (7, _), .int i :: .ref a :: st => if 1000 ≤ a ∧ a < 1013 ∧ zzCat st ≤ 8 ∧ zzIx i (zzTx (a - 1000)).length then some (pc + 3, ls, .int (Int32.ofNat ((zzTx (a - 1000)).getD i.toNatClampNeg 0)) :: st, Z) else none
    | _, _ => none)
  | _ => none
def zzFlow (pc : Nat) (il : Instr × Nat) (ls st : List Value) (Z : zzH) : Option zzS := match il with
  | (.goto off, 3) => (zzTg pc off).map (fun t => (t, ls, st, Z))
  | (.if_icmp c off, 3) => (match st, zzTg pc off with
    | .int y :: .int x :: st, some t => some (if zzCm c x y = true then t else pc + 3, ls, st, Z)
    | _, _ => none)
  | (.ifCond c off, 3) => (match st, zzTg pc off with
    | .int x :: st, some t => some (if zzCm c x 0 = true then t else pc + 3, ls, st, Z)
    | _, _ => none)
  | (.ifnull off, 3) => (match st, zzTg pc off with
    | .ref _ :: st, some _ => some (pc + 3, ls, st, Z)
    | .null :: st, some t => some (t, ls, st, Z)
    | _, _ => none)
  | (.ifnonnull off, 3) => (match st, zzTg pc off with
    | .ref _ :: st, some t => some (t, ls, st, Z)
    | .null :: st, some _ => some (pc + 3, ls, st, Z)
    | _, _ => none)
  | (.tableswitch df lo hi offs, _) => (match st with
    | .int x :: st => if x.toInt < lo ∨ hi < x.toInt then (zzTg pc df).map (fun t => (t, ls, st, Z)) else (match offs[(x.toInt - lo).toNat]? with
      | some off => (zzTg pc off).map (fun t => (t, ls, st, Z))
      | none => none)
    | _ => none)
  | (.lookupswitch df ps, _) => (match st with
    | .int x :: st => if (ps.toList.zip (ps.toList.drop 1)).all (fun (a, next) => a.1 < next.1) = true then (zzTg pc (Op.lookupswitch.offset ps.toList df x.toInt)).map (fun t => (t, ls, st, Z)) else none
    | _ => none)
  | (.iinc i n, 3) => (match ls[i]? with
    | some (.int x) => (zzSet ls i 1 (.int (x + Int32.ofInt n))).map (fun ls' => (pc + 3, ls', st, Z))
    | _ => none)
  | (.dup, 1) => (match st with
    | v :: st => if v.category = 1 then some (pc + 1, ls, v :: v :: st, Z) else none
    | _ => none)
  | (.pop, 1) => (match st with
    | v :: st => if v.category = 1 then some (pc + 1, ls, st, Z) else none
    | _ => none)
  | (.dup2, 1) => (match st with
    | v :: w :: st => if v.category = 1 ∧ w.category = 1 then some (pc + 1, ls, v :: w :: v :: w :: st, Z) else none
    | _ => none)
  | (.i2l, 1) => (match st with
    | .int x :: st => some (pc + 1, ls, .long x.toInt64 :: st, Z)
    | _ => none)
  | (.l2i, 1) => (match st with
    | .long x :: st => some (pc + 1, ls, .int x.toInt32 :: st, Z)
    | _ => none)
  | (.lcmp, 1) => (match st with
    | .long y :: .long x :: st => some (pc + 1, ls, .int (lg_cmp x y) :: st, Z)
    | _ => none)
  | _ => none
def zzAr (pc : Nat) (il : Instr × Nat) (ls st : List Value) (Z : zzH) : Option zzS := match st with
  | .int y :: .int x :: st => (match zzBi il, zzDi il, zzUn il with
    | some f, _, _ => some (pc + 1, ls, .int (f x y) :: st, Z)
    | _, some f, _ => if y = 0 then none else some (pc + 1, ls, .int (f x y) :: st, Z)
    | _, _, some f => some (pc + 1, ls, .int (f y) :: .int x :: st, Z)
    | _, _, _ => none)
  | .int y :: st => (match zzUn il with
    | some f => some (pc + 1, ls, .int (f y) :: st, Z)
    | _ => none)
  | .long y :: .long x :: st => (match zzBl il, zzDl il with
    | some f, _ => some (pc + 1, ls, .long (f x y) :: st, Z)
    | _, some f => if y = 0 then none else some (pc + 1, ls, .long (f x y) :: st, Z)
    | _, _ => none)
  | _ => none
/-- one instruction that is neither a call nor a return -/
def zzStep (own : Nat) (ini : Bool) (pc : Nat) (il : Instr × Nat) (ls st : List Value) (Z : zzH) : Option zzS :=
  match zzPush own il with
  | some v => some (pc + il.2, ls, v :: st, Z)
  | none =>
  match zzLd il with
  | some (i, t) => (match ls[i]? with
    | some v => if zzIs t v = true then some (pc + il.2, ls, v :: st, Z) else none
    | none => none)
  | none =>
  match zzSd il with
  | some (i, t) => (match st with
    | v :: st => if zzIs t v = true then (zzSet ls i t v).map (fun ls' => (pc + il.2, ls', st, Z)) else none
    | [] => none)
  | none =>
  match zzAr pc il ls st Z with
  | some r => some r
  | none =>
  match zzFlow pc il ls st Z with
  | some r => some r
  | none =>
  match zzMem own ini pc il ls st Z with
  | some r => some r
  | none => zzPrim own pc il ls st Z
def zzLk (l : List (Nat × Instr × Nat)) (pc : Nat) : Option (Instr × Nat) := match l with
  | [] => none
  | q :: l => if q.1 = pc then some q.2 else zzLk l pc
theorem zzLk_mem {l : List (Nat × Instr × Nat)} {pc : Nat} {il : Instr × Nat} (h : zzLk l pc = some il) : (pc, il) ∈ l := by
  induction l with
  | nil => cases h
  | cons q l ih =>
    obtain ⟨x, w⟩ := q
    unfold zzLk at h
    split at h
    · next c =>
      dsimp only at c
      subst c
      cases h
      exact List.mem_cons_self
    · exact List.mem_cons_of_mem _ (ih h)
/-- a return: what is answered -/
def zzRet (ret : Option FieldType) (il : Instr × Nat) (st : List Value) : Option (Option Value) := match il, st, ret with
  | (.ireturn, 1), [.int v], some .int => some (some (.int v))
  | (.ireturn, 1), [.int v], some .boolean => if v = 0 ∨ v = 1 then some (some (.int v)) else none
  | (.lreturn, 1), [.long v], some .long => some (some (.long v))
  | (.areturn, 1), [.ref v], some (.object _) => some (some (.ref v))
  | (.areturn, 1), [.null], some (.object _) => some (some .null)
  | (.return_, 1), [], none => some none
  | _, _, _ => none
/-- a method's locals at its entry -/
def zzEnt : List Value → List Value
  | [] => []
  | v :: vs => if v.category = 2 then v :: zzU :: zzEnt vs else v :: zzEnt vs
def zzIn (y : Nat) (as : List Value) : List Value := zzEnt as ++ List.replicate ((zzM y).2.2.1 - (zzEnt as).length) zzU
def zzIk (il : Instr × Nat) : Option (Nat × Nat) := match il with
  | (.invokestatic i, 3) => some (i, 0)
  | (.invokevirtual i, 3) => some (i, 2)
  | (.invokespecial i, 3) => some (i, 3)
  | _ => none
/-- the receiver, of the class that the method wants (kind 2), or any object (kind 3) -/
def zzRcv (kd y : Nat) (as : List Value) (Z : zzH) : Bool := match as with
  | .ref a :: _ => kd == 3 || (match Z.1[a]? with
    | some q => q.1 == (zzM y).2.2.2.2.1
    | none => false)
  | _ => false
/-- a call: the method, its arguments, what stays on the stack -/
def zzInv (own : Nat) (il : Instr × Nat) (st : List Value) (Z : zzH) : Option (Nat × List Value × List Value) := match zzIk il with
  | none => none
  | some (i, md) => (match zzGet zzML own i with
    | none => none
    | some (kd, y) => if (zzM y).2.2.2.2.2.1 ≤ st.length ∧ zzCat (st.drop (zzM y).2.2.2.2.2.1) ≤ 8 ∧ (zzEnt (st.take (zzM y).2.2.2.2.2.1).reverse).length ≤ (zzM y).2.2.1 ∧ ((md = 0 ∧ kd ≤ 1) ∨ (md = 2 ∧ kd = 2 ∧ zzRcv 2 y (st.take (zzM y).2.2.2.2.2.1).reverse Z = true) ∨ (md = 3 ∧ kd = 3 ∧ zzRcv 3 y (st.take (zzM y).2.2.2.2.2.1).reverse Z = true)) then some (y, (st.take (zzM y).2.2.2.2.2.1).reverse, st.drop (zzM y).2.2.2.2.2.1) else none)
def zzExec : Nat → Nat → Nat → Nat → List Value → List Value → zzH → Option (Option Value × zzH)
  | 0, _, _, _, _, _, _ => none
  | n + 1, d, y, pc, ls, st, Z =>
    match zzLk (zzM y).2.2.2.2.2.2.2 pc with
    | none => none
    | some il =>
      match zzRet (zzM y).2.2.2.1 il st with
      | some r => some (r, Z)
      | none =>
        match zzInv (zzM y).2.2.2.2.1 il st Z with
        | some (y', as, rest) =>
          (match d with
          | 0 => none
          | d' + 1 =>
            (match zzExec n d' y' 0 (zzIn y' as) [] Z with
            | none => none
            | some (r, Z') => zzExec n (d' + 1) y (pc + 3) ls (r.toList ++ rest) Z'))
        | none =>
          match zzStep (zzM y).2.2.2.2.1 ((zzM y).2.2.2.2.2.2.1 == 2) pc il ls st Z with
          | none => none
          | some (pc', ls', st', Z') => zzExec n d y pc' ls' st' Z'
theorem zzExec_mono : ∀ (n k d y pc : Nat) (ls st : List Value) (Z : zzH) (r : Option Value × zzH), zzExec n d y pc ls st Z = some r → zzExec (n + k) d y pc ls st Z = some r := by
  intro n
  induction n with
  | zero => intro k d y pc ls st Z r h; simp [zzExec] at h
  | succ n ih =>
    intro k d y pc ls st Z r h
    rw [show n + 1 + k = (n + k) + 1 by omega]
    unfold zzExec at h ⊢
    cases h1 : zzLk (zzM y).2.2.2.2.2.2.2 pc with
    | none => rw [h1] at h; exact h
    | some il =>
      rw [h1] at h
      dsimp only at h ⊢
      cases h2 : zzRet (zzM y).2.2.2.1 il st with
      | some r => rw [h2] at h; exact h
      | none =>
        rw [h2] at h
        dsimp only at h ⊢
        cases h3 : zzInv (zzM y).2.2.2.2.1 il st Z with
        | some q =>
          obtain ⟨y', as, rest⟩ := q
          rw [h3] at h
          dsimp only at h ⊢
          cases d with
          | zero => exact h
          | succ d' =>
            dsimp only at h ⊢
            cases h4 : zzExec n d' y' 0 (zzIn y' as) [] Z with
            | none => rw [h4] at h; cases h
            | some q =>
              obtain ⟨v, Z'⟩ := q
              rw [h4] at h
              rw [ih k _ _ _ _ _ _ _ h4]
              exact ih k _ _ _ _ _ _ _ h
        | none =>
          rw [h3] at h
          dsimp only at h ⊢
          cases h4 : zzStep (zzM y).2.2.2.2.1 ((zzM y).2.2.2.2.2.2.1 == 2) pc il ls st Z with
          | none => rw [h4] at h; exact h
          | some q =>
            obtain ⟨pc', ls', st', Z'⟩ := q
            rw [h4] at h
            exact ih k _ _ _ _ _ _ _ h
end
section
/-! the memory of numbers, and the machine's heap and locals -/
def zzV (σ : Nat → Nat) (v : Value) : Value := match v with
  | .ref a => .ref (σ a)
  | v => v
theorem zzV_cat (σ : Nat → Nat) (v : Value) : (zzV σ v).category = v.category := by cases v <;> rfl
theorem zzV_rf (σ : Nat → Nat) (r : Option Nat) : zzV σ (va_rf r) = va_rf (r.map σ) := by cases r <;> rfl
theorem zzCat_map (σ : Nat → Nat) (st : List Value) : ((st.map (zzV σ)).map fun v => v.category).sum = zzCat st := by
  unfold zzCat
  rw [List.map_map]
  congr 1
  exact List.map_congr_left fun v _ => zzV_cat σ v
def zzAs (σ : Nat → Nat) : Nat → List Value → List (Nat × Value)
  | _, [] => []
  | i, v :: l => if v = zzU then zzAs σ (i + 1) l else (i, zzV σ v) :: zzAs σ (i + 1) l
theorem zzAs_mem (σ : Nat → Nat) : ∀ (l : List Value) (i : Nat) (q : Nat × Value), q ∈ zzAs σ i l ↔ ∃ k v, l[k]? = some v ∧ v ≠ zzU ∧ q = (i + k, zzV σ v) := by
  intro l
  induction l with
  | nil => intro i q; simp [zzAs]
  | cons v l ih =>
    intro i q
    unfold zzAs
    split
    · next hv =>
      rw [ih]
      constructor
      · rintro ⟨k, w, h1, h2, h3⟩
        exact ⟨k + 1, w, by simpa using h1, h2, by rw [h3, Nat.add_assoc, Nat.add_comm 1 k]⟩
      · rintro ⟨k, w, h1, h2, h3⟩
        cases k with
        | zero =>
          rw [List.getElem?_cons_zero] at h1
          exact absurd ((Option.some.inj h1).symm.trans hv) h2
        | succ k => exact ⟨k, w, by simpa using h1, h2, by rw [h3, Nat.add_assoc, Nat.add_comm 1 k]⟩
    · next hv =>
      rw [List.mem_cons, ih]
      constructor
      · rintro (h | ⟨k, w, h1, h2, h3⟩)
        · exact ⟨0, v, rfl, hv, h⟩
        · exact ⟨k + 1, w, by simpa using h1, h2, by rw [h3, Nat.add_assoc, Nat.add_comm 1 k]⟩
      · rintro ⟨k, w, h1, h2, h3⟩
        cases k with
        | zero =>
          rw [List.getElem?_cons_zero] at h1
          left
          rw [Option.some.inj h1]
          exact h3
        | succ k => exact Or.inr ⟨k, w, by simpa using h1, h2, by rw [h3, Nat.add_assoc, Nat.add_comm 1 k]⟩
theorem zz_mono {lsA : Array Slot} {nL : Nat} {l1 l2 : List (Nat × Value)} (h : lv_has lsA nL l1) (hm : ∀ q ∈ l2, q ∈ l1) : lv_has lsA nL l2 := ⟨h.1, h.2.1, fun q hq => h.2.2 q (hm q hq)⟩
theorem zz_at {σ : Nat → Nat} {lsA : Array Slot} {nL k : Nat} {ls : List Value} {v : Value} (hl : lv_has lsA nL (zzAs σ 0 ls)) (h : ls[k]? = some v) (hv : v ≠ zzU) : lsA[k]? = some (.val (zzV σ v)) := by
  have h1 := hl.2.2 (0 + k, zzV σ v) ((zzAs_mem σ ls 0 _).mpr ⟨k, v, h, hv, rfl⟩)
  rw [Nat.zero_add] at h1
  exact h1
theorem zz_ka {σ : Nat → Nat} {ls : List Value} {k : Nat} {v : Value} (h : ls[k]? = some v) (hv : v ≠ zzU) : ∃ j : Nat, (zzAs σ 0 ls)[j]? = some (k, zzV σ v) :=
  List.getElem?_of_mem ((zzAs_mem σ ls 0 _).mpr ⟨k, v, h, hv, by rw [Nat.zero_add]⟩)
theorem zz_set1 {σ : Nat → Nat} {lsA : Array Slot} {nL i : Nat} {ls : List Value} {v : Value} (h : lv_has lsA nL ((i, zzV σ v) :: (zzAs σ 0 ls).filter (fun q => !(q.1 == i) && !(q.1 + 1 == i && q.2.category == 2)))) (hg : zzLg ls i = false) : lv_has lsA nL (zzAs σ 0 (ls.set i v)) := by
  refine zz_mono h fun q hq => ?_
  obtain ⟨k, w, h1, h2, rfl⟩ := (zzAs_mem σ _ _ _).mp hq
  rw [Nat.zero_add]
  rw [List.getElem?_set] at h1
  split at h1
  · next e =>
    subst e
    split at h1
    · cases h1; exact List.mem_cons_self
    · cases h1
  · next e =>
    refine List.mem_cons_of_mem _ (List.mem_filter.mpr ⟨(zzAs_mem σ _ _ _).mpr ⟨k, w, h1, h2, by rw [Nat.zero_add]⟩, ?_⟩)
    have e1 : (k == i) = false := by simpa using Ne.symm e
    by_cases hk : k + 1 = i
    · subst hk
      simp only [zzLg, h1] at hg
      simp [zzV_cat, hg]
    · have e2 : (k + 1 == i) = false := by simpa using hk
      simp [e1, e2]
theorem zz_set2 {σ : Nat → Nat} {lsA : Array Slot} {nL i : Nat} {ls : List Value} {v : Value} (h : lv_has lsA nL ((i, zzV σ v) :: (zzAs σ 0 ls).filter (fun q => !(q.1 == i) && (!(q.1 == i + 1) && !(q.1 + 1 == i && q.2.category == 2))))) (hg : zzLg ls i = false) : lv_has lsA nL (zzAs σ 0 ((ls.set i v).set (i + 1) zzU)) := by
  refine zz_mono h fun q hq => ?_
  obtain ⟨k, w, h1, h2, rfl⟩ := (zzAs_mem σ _ _ _).mp hq
  rw [Nat.zero_add]
  rw [List.getElem?_set] at h1
  split at h1
  · next e =>
    split at h1
    · cases h1; exact absurd rfl h2
    · cases h1
  · next e0 =>
    rw [List.getElem?_set] at h1
    split at h1
    · next e =>
      subst e
      split at h1
      · cases h1; exact List.mem_cons_self
      · cases h1
    · next e =>
      refine List.mem_cons_of_mem _ (List.mem_filter.mpr ⟨(zzAs_mem σ _ _ _).mpr ⟨k, w, h1, h2, by rw [Nat.zero_add]⟩, ?_⟩)
      have e1 : (k == i) = false := by simpa using Ne.symm e
      have e3 : (k == i + 1) = false := by simpa using Ne.symm e0
      by_cases hk : k + 1 = i
      · subst hk
        simp only [zzLg, h1] at hg
        simp [zzV_cat, hg]
        omega
      · have e2 : (k + 1 == i) = false := by simpa using hk
        simp [e1, e2, e3]
/-! the cells -/
def zzFs (σ : Nat → Nat) (Z : zzH) (c a : Nat) : List Value := (List.range (zzN c)).map fun k => zzV σ (zzFv Z c a k)
def zzCell (σ : Nat → Nat) (ca : Nat → ClassId) (Z : zzH) (a : Nat) (q : Nat × Nat) : va_E :=
  if q.1 < 8 then .inr (q.1, zzFs σ Z q.1 a)
  else if q.1 = 10 then .inl (ca 2, q.2, .inr (.inr (.inr (.inr (fun j => (Z.2.1 a j).map σ)))))
  else if q.1 = 9 then .inl (ca 1, q.2, .inl (Z.2.2.2 a))
  else .inl (ca 0, q.2, .inl (Z.2.2.2 a))
def zzWs (σ : Nat → Nat) (ca : Nat → ClassId) (Z : zzH) : va_W := Z.1.zipIdx.map fun q => (σ q.2, zzCell σ ca Z q.2 q.1)
abbrev zzTys (ca : Nat → ClassId) : List (ClassId × FieldType) := [(ca 0, .int), (ca 1, .boolean), (ca 2, .object RX4)]
theorem zzWs_get (σ : Nat → Nat) (ca : Nat → ClassId) (Z : zzH) (a : Nat) : (zzWs σ ca Z)[a]? = (Z.1[a]?).map (fun q => (σ a, zzCell σ ca Z a q)) := by
  unfold zzWs
  rw [List.getElem?_map, List.getElem?_zipIdx]
  cases Z.1[a]? with
  | none => rfl
  | some q => simp
theorem zzWs_at {σ : Nat → Nat} {ca : Nat → ClassId} {Z : zzH} {a : Nat} {q : Nat × Nat} (h : Z.1[a]? = some q) : (zzWs σ ca Z)[a]? = some (σ a, zzCell σ ca Z a q) := by
  rw [zzWs_get, h]; rfl
theorem zzWs_len (σ : Nat → Nat) (ca : Nat → ClassId) (Z : zzH) : (zzWs σ ca Z).length = Z.1.length := by simp [zzWs]
theorem zzWs_D {σ : Nat → Nat} {ca : Nat → ClassId} {B : Nat} {Z : zzH} (hσ : ∀ a, a < 1000 → σ a = B + a) (hZ : Z.1.length ≤ 1000) : va_D (fun q : Nat => B ≤ q) (zzWs σ ca Z) := by
  have key : ∀ (i : Nat) (p : Nat × va_E), (zzWs σ ca Z)[i]? = some p → p.1 = B + i := by
    intro i p h
    rw [zzWs_get] at h
    cases hz : Z.1[i]? with
    | none => rw [hz] at h; cases h
    | some q =>
      rw [hz] at h
      cases h
      have hi : i < Z.1.length := (List.getElem?_eq_some_iff.mp hz).1
      exact hσ i (by omega)
  refine ⟨fun i j p q hi hj h => ?_, fun k q h => ?_⟩
  · rw [key i p hi, key j q hj] at h
    omega
  · rw [key k q h]
    exact Nat.le_add_right _ _
theorem zzWs_set {σ : Nat → Nat} {ca : Nat → ClassId} {Z Z' : zzH} {a : Nat} {q : Nat × Nat} {e : va_E} (h1 : Z'.1 = Z.1) (ha : Z.1[a]? = some q) (he : zzCell σ ca Z' a q = e) (ho : ∀ (x : Nat) (w : Nat × Nat), x ≠ a → zzCell σ ca Z' x w = zzCell σ ca Z x w) : (zzWs σ ca Z).set a (σ a, e) = zzWs σ ca Z' := by
  apply List.ext_getElem?
  intro i
  rw [List.getElem?_set, zzWs_get, zzWs_get, h1]
  have hl : a < (zzWs σ ca Z).length := by rw [zzWs_len]; exact (List.getElem?_eq_some_iff.mp ha).1
  by_cases hi : a = i
  · subst hi
    rw [if_pos rfl, if_pos hl, ha, Option.map_some, he]
  · rw [if_neg hi]
    cases Z.1[i]? with
    | none => rfl
    | some w => rw [Option.map_some, Option.map_some, ho i w (Ne.symm hi)]
theorem zzRo_ne {α : Type} {f : Nat → Nat → α} {a x : Nat} {g : Nat → α} (h : x ≠ a) : zzRo f a g x = f x := by
  funext j
  unfold zzRo
  rw [if_neg h]
theorem zzRo_eq {α : Type} {f : Nat → Nat → α} {a : Nat} {g : Nat → α} : zzRo f a g a = g := by
  funext j
  unfold zzRo
  rw [if_pos rfl]
theorem zzUp_ne {α : Type} {f : Nat → Nat → α} {a x k : Nat} {v : α} (h : x ≠ a) : zzUp f a k v x = f x := by
  funext j
  unfold zzUp
  rw [if_neg (fun e => h e.1)]
theorem zzUp_eq {α : Type} {f : Nat → Nat → α} {a k j : Nat} {v : α} : zzUp f a k v a j = if j = k then v else f a j := by
  unfold zzUp
  simp
theorem zzFv_ro {Z : zzH} {n c0 c a x k : Nat} (h : x ≠ Z.1.length) : zzFv (zzNew Z c0 n) c x k = zzFv Z c x k := by
  unfold zzFv zzNew
  dsimp only
  rw [zzRo_ne h, zzRo_ne h, zzRo_ne h]
theorem zzCell_new {σ : Nat → Nat} {ca : Nat → ClassId} {Z : zzH} {c n x : Nat} {w : Nat × Nat} (h : x ≠ Z.1.length) : zzCell σ ca (zzNew Z c n) x w = zzCell σ ca Z x w := by
  have e : zzFs σ (zzNew Z c n) w.1 x = zzFs σ Z w.1 x := by
    unfold zzFs
    exact List.map_congr_left fun k _ => by rw [zzFv_ro (a := 0) h]
  unfold zzCell
  rw [e]
  unfold zzNew
  dsimp only
  rw [zzRo_ne h, zzRo_ne h]
theorem zzWs_push (σ : Nat → Nat) (ca : Nat → ClassId) (Z : zzH) (c n : Nat) : zzWs σ ca Z ++ [(σ Z.1.length, zzCell σ ca (zzNew Z c n) Z.1.length (c, n))] = zzWs σ ca (zzNew Z c n) := by
  apply List.ext_getElem?
  intro i
  rw [zzWs_get]
  show _ = ((Z.1 ++ [(c, n)])[i]?).map _
  by_cases hi : i < Z.1.length
  · rw [List.getElem?_append_left (by rw [zzWs_len]; exact hi), List.getElem?_append_left hi, zzWs_get]
    cases Z.1[i]? with
    | none => rfl
    | some w => rw [Option.map_some, Option.map_some, zzCell_new (by omega)]
  · rw [List.getElem?_append_right (by rw [zzWs_len]; omega), List.getElem?_append_right (by omega), zzWs_len]
    by_cases h0 : i = Z.1.length
    · subst h0
      rw [Nat.sub_self]; rfl
    · obtain ⟨j, hj⟩ : ∃ j, i - Z.1.length = j + 1 := ⟨i - Z.1.length - 1, by omega⟩
      rw [hj]; rfl
/-- slots that all cells have -/
def zzSl (Z : zzH) : Nat := (Z.1.map Prod.snd).sum
theorem zzSl_new (Z : zzH) (c n : Nat) : zzSl (zzNew Z c n) = zzSl Z + n := by
  unfold zzSl zzNew
  simp
theorem zz_fits (t : FieldType) (a b : Nat) : fits t (.ref a) = fits t (.ref b) := by cases t <;> rfl
theorem zz_narR (t : FieldType) (a : Nat) (h : fits t (.ref 0) = true) : narrow t (.ref a) = .ref a := by cases t <;> first | rfl | (cases h)
end
section
/-! each instruction on the machine, as the function says it -/
section ZZS
variable {p : Program} {l : Launch} {e : Env} {R : Room} {s : State} {m : MethodId} {args : Array Value} {below : List Frame} {meth : Method} {c : Code} {H : Heap} {locs : List Loc} {cells slots : Nat} {Q : State → Prop}
variable {cc : ByteArray} {pc nL : Nat} {lsA : Array Slot} {rest : List Value} {σ : Nat → Nat} {ls : List Value} {own : Nat}
theorem zzs_push {il : Instr × Nat} {v : Value} (hx : p.tables.exec = Jvm.exec) (hb : c.code = cc) (hown : s.vm.findClass (zzR own) = some m.cls) (hts : ∀ w ∈ ZW, w.before args s = true) (hst : ∀ (o i k : Nat), zzGet zzKS o i = some k → vk_R (zzR o) i (zzKt.getD k "") (σ (1000 + k)) s)
    (hd : decode cc pc = .ok il) (h : zzPush own il = some v) (k : W p l e R s m args below meth c H locs cells slots Q (F0 m (pc + il.2) lsA (zzV σ v :: rest))) : W p l e R s m args below meth c H locs cells slots Q (F0 m pc lsA rest) := by
  unfold zzPush at h
  split at h
  · cases h; exact lv_iconst hx hb hd rfl k
  · cases h; exact lv_bipush hx hb hd rfl k
  · cases h; exact lv_sipush hx hb hd rfl k
  · cases h; exact lv_lconst hx hb hd rfl k
  · cases h; exact lv_null hx hb hd k
  · next i =>
    split at h
    · next kk hk => cases h; exact va_ldcS hx hb hown (hst _ _ _ hk) hd k
    · cases hq : zzGet zzKI own i with
      | none => rw [hq] at h; cases h
      | some x =>
        rw [hq] at h; cases h
        have hw := zzKIw _ (zzGet_mem hq)
        exact lv_ldc hx hb hown (hts _ (ZW_of hw.1 hw.2)) hd k
  · next i =>
    cases hq : zzGet zzKI own i with
    | none => rw [hq] at h; cases h
    | some x =>
      rw [hq] at h; cases h
      have hw := zzKIw _ (zzGet_mem hq)
      exact lv_ldcw hx hb hown (hts _ (ZW_of hw.1 hw.2)) hd k
  · next i =>
    cases hq : zzGet zzKL own i with
    | none => rw [hq] at h; cases h
    | some x =>
      rw [hq] at h; cases h
      have hw := zzKLw _ (zzGet_mem hq)
      exact lv_ldc2 hx hb hown (hts _ (ZW_of hw.1 hw.2)) hd k
  · cases h
theorem zzIs_int {v : Value} (h : zzIs 1 v = true) : ∃ x, v = .int x := by
  cases v <;> first | exact ⟨_, rfl⟩ | (cases h)
theorem zzIs_long {v : Value} (h : zzIs 2 v = true) : ∃ x, v = .long x := by
  cases v <;> first | exact ⟨_, rfl⟩ | (cases h)
theorem zzIs_ref {v : Value} (h : zzIs 3 v = true) : v = .null ∨ ∃ x, v = .ref x := by
  cases v <;> first | exact Or.inl rfl | exact Or.inr ⟨_, rfl⟩ | (cases h)
theorem zzIs_nU {t : Nat} {v : Value} (h : zzIs t v = true) : v ≠ zzU := by
  rintro rfl
  unfold zzIs zzU at h
  split at h <;> first | (cases h; done) | (next e => cases e)
theorem zzs_ld {il : Instr × Nat} {i t : Nat} {v : Value} (hx : p.tables.exec = Jvm.exec) (hb : c.code = cc) (hd : decode cc pc = .ok il) (h : zzLd il = some (i, t)) (hl : lsA[i]? = some (.val (zzV σ v))) (ht : zzIs t v = true)
    (k : W p l e R s m args below meth c H locs cells slots Q (F0 m (pc + il.2) lsA (zzV σ v :: rest))) : W p l e R s m args below meth c H locs cells slots Q (F0 m pc lsA rest) := by
  unfold zzLd at h
  split at h
  · cases h
    obtain ⟨x, rfl⟩ := zzIs_int ht
    exact lv_iload hx hb hd hl k
  · cases h
    obtain ⟨x, rfl⟩ := zzIs_int ht
    exact lv_iload_n hx hb hd rfl hl k
  · cases h
    obtain ⟨x, rfl⟩ := zzIs_long ht
    exact lv_lload hx hb hd hl k
  · cases h
    obtain ⟨x, rfl⟩ := zzIs_long ht
    exact lv_lload_n hx hb hd rfl hl k
  · cases h
    rcases zzIs_ref ht with rfl | ⟨x, rfl⟩
    · exact lv_aloadN hx hb hd hl k
    · exact lv_aload hx hb hd hl k
  · cases h
    rcases zzIs_ref ht with rfl | ⟨x, rfl⟩
    · exact lv_aload_nN hx hb hd rfl hl k
    · exact lv_aload_n hx hb hd rfl hl k
  · cases h
theorem zzSet_spec {i t : Nat} {v : Value} {ls' : List Value} (h : zzSet ls i t v = some ls') : zzLg ls i = false ∧ ((t = 2 ∧ i + 1 < ls.length ∧ ls' = (ls.set i v).set (i + 1) zzU) ∨ (t ≠ 2 ∧ i < ls.length ∧ ls' = ls.set i v)) := by
  unfold zzSet at h
  split at h
  · cases h
  · next h1 =>
    refine ⟨by simpa using h1, ?_⟩
    split at h
    · next ht =>
      split at h
      · next h2 => cases h; exact Or.inl ⟨ht, h2, rfl⟩
      · cases h
    · next ht =>
      split at h
      · next h2 => cases h; exact Or.inr ⟨ht, h2, rfl⟩
      · cases h
theorem zzSet_len {i t : Nat} {v : Value} {ls' : List Value} (h : zzSet ls i t v = some ls') : ls'.length = ls.length := by
  obtain ⟨-, ⟨-, -, rfl⟩ | ⟨-, -, rfl⟩⟩ := zzSet_spec h <;> simp
theorem zzs_sd {il : Instr × Nat} {i t : Nat} {v : Value} {ls' : List Value} (hx : p.tables.exec = Jvm.exec) (hb : c.code = cc) (hd : decode cc pc = .ok il) (h : zzSd il = some (i, t)) (ht : zzIs t v = true) (hs : zzSet ls i t v = some ls') (hl : lv_has lsA nL (zzAs σ 0 ls)) (hn : ls.length = nL)
    (k : ∀ lsA' : Array Slot, lv_has lsA' nL (zzAs σ 0 ls') → W p l e R s m args below meth c H locs cells slots Q (F0 m (pc + il.2) lsA' rest)) : W p l e R s m args below meth c H locs cells slots Q (F0 m pc lsA (zzV σ v :: rest)) := by
  obtain ⟨hg, hs⟩ := zzSet_spec hs
  unfold zzSd at h
  split at h
  · cases h
    obtain ⟨x, rfl⟩ := zzIs_int ht
    rcases hs with ⟨h1, -, -⟩ | ⟨-, h2, rfl⟩
    · cases h1
    · exact lv_istore hx hb hd hl (hn ▸ h2) rfl (fun q hq => k q (zz_set1 hq hg))
  · cases h
    obtain ⟨x, rfl⟩ := zzIs_int ht
    rcases hs with ⟨h1, -, -⟩ | ⟨-, h2, rfl⟩
    · cases h1
    · exact lv_istore_n hx hb hd rfl hl (hn ▸ h2) rfl (fun q hq => k q (zz_set1 hq hg))
  · cases h
    obtain ⟨x, rfl⟩ := zzIs_long ht
    rcases hs with ⟨-, h2, rfl⟩ | ⟨h1, -, -⟩
    · exact lv_lstore hx hb hd hl (hn ▸ h2) rfl (fun q hq => k q (zz_set2 hq hg))
    · exact absurd rfl h1
  · cases h
    obtain ⟨x, rfl⟩ := zzIs_long ht
    rcases hs with ⟨-, h2, rfl⟩ | ⟨h1, -, -⟩
    · exact lv_lstore_n hx hb hd rfl hl (hn ▸ h2) rfl (fun q hq => k q (zz_set2 hq hg))
    · exact absurd rfl h1
  · cases h
    rcases hs with ⟨h1, -, -⟩ | ⟨-, h2, rfl⟩
    · cases h1
    · rcases zzIs_ref ht with rfl | ⟨x, rfl⟩
      · exact lv_astoreN hx hb hd hl (hn ▸ h2) rfl (fun q hq => k q (zz_set1 hq hg))
      · exact lv_astore hx hb hd hl (hn ▸ h2) rfl (fun q hq => k q (zz_set1 hq hg))
  · cases h
    rcases hs with ⟨h1, -, -⟩ | ⟨-, h2, rfl⟩
    · cases h1
    · rcases zzIs_ref ht with rfl | ⟨x, rfl⟩
      · exact lv_astore_nN hx hb hd rfl hl (hn ▸ h2) rfl (fun q hq => k q (zz_set1 hq hg))
      · exact lv_astore_n hx hb hd rfl hl (hn ▸ h2) rfl (fun q hq => k q (zz_set1 hq hg))
  · cases h
theorem zzs_bi {il : Instr × Nat} {f : Int32 → Int32 → Int32} {x y : Int32} (hx : p.tables.exec = Jvm.exec) (hb : c.code = cc) (hd : decode cc pc = .ok il) (h : zzBi il = some f)
    (k : W p l e R s m args below meth c H locs cells slots Q (F0 m (pc + 1) lsA (.int (f x y) :: rest))) : W p l e R s m args below meth c H locs cells slots Q (F0 m pc lsA (.int y :: .int x :: rest)) := by
  unfold zzBi at h
  split at h
  · cases h; exact lv_iadd hx hb hd k
  · cases h; exact lv_isub hx hb hd k
  · cases h; exact lv_imul hx hb hd k
  · cases h; exact lv_iand hx hb hd k
  · cases h; exact lv_ior hx hb hd k
  · cases h; exact lv_ishl hx hb hd k
  · cases h; exact lv_ishr hx hb hd k
  · cases h; exact lv_iushr hx hb hd rfl k
  · cases h
theorem zzs_di {il : Instr × Nat} {f : Int32 → Int32 → Int32} {x y : Int32} (hx : p.tables.exec = Jvm.exec) (hb : c.code = cc) (hd : decode cc pc = .ok il) (h : zzDi il = some f) (hy : ¬ y = 0)
    (k : W p l e R s m args below meth c H locs cells slots Q (F0 m (pc + 1) lsA (.int (f x y) :: rest))) : W p l e R s m args below meth c H locs cells slots Q (F0 m pc lsA (.int y :: .int x :: rest)) := by
  unfold zzDi at h
  split at h
  · cases h; exact lv_idiv hx hb hd hy k
  · cases h; exact lv_irem hx hb hd hy k
  · cases h
theorem zzs_un {il : Instr × Nat} {f : Int32 → Int32} {x : Int32} (hx : p.tables.exec = Jvm.exec) (hb : c.code = cc) (hd : decode cc pc = .ok il) (h : zzUn il = some f)
    (k : W p l e R s m args below meth c H locs cells slots Q (F0 m (pc + 1) lsA (.int (f x) :: rest))) : W p l e R s m args below meth c H locs cells slots Q (F0 m pc lsA (.int x :: rest)) := by
  unfold zzUn at h
  split at h
  · cases h; exact lv_ineg hx hb hd k
  · cases h; exact lv_i2b hx hb hd rfl k
  · cases h; exact lv_i2s hx hb hd rfl k
  · cases h
theorem zzs_bl {il : Instr × Nat} {f : Int64 → Int64 → Int64} {x y : Int64} (hx : p.tables.exec = Jvm.exec) (hb : c.code = cc) (hd : decode cc pc = .ok il) (h : zzBl il = some f)
    (k : W p l e R s m args below meth c H locs cells slots Q (F0 m (pc + 1) lsA (.long (f x y) :: rest))) : W p l e R s m args below meth c H locs cells slots Q (F0 m pc lsA (.long y :: .long x :: rest)) := by
  unfold zzBl at h
  split at h
  · cases h; exact lv_ladd hx hb hd k
  · cases h; exact lv_lsub hx hb hd k
  · cases h; exact lv_lmul hx hb hd k
  · cases h
theorem zzs_dl {il : Instr × Nat} {f : Int64 → Int64 → Int64} {x y : Int64} (hx : p.tables.exec = Jvm.exec) (hb : c.code = cc) (hd : decode cc pc = .ok il) (h : zzDl il = some f) (hy : ¬ y = 0)
    (k : W p l e R s m args below meth c H locs cells slots Q (F0 m (pc + 1) lsA (.long (f x y) :: rest))) : W p l e R s m args below meth c H locs cells slots Q (F0 m pc lsA (.long y :: .long x :: rest)) := by
  unfold zzDl at h
  split at h
  · cases h; exact lv_ldiv hx hb hd hy k
  · cases h; exact lv_lrem hx hb hd hy k
  · cases h
theorem zzs_ar {il : Instr × Nat} {st : List Value} {Z : zzH} {r : zzS} (hx : p.tables.exec = Jvm.exec) (hb : c.code = cc) (hd : decode cc pc = .ok il) (h : zzAr pc il ls st Z = some r)
    (k : r.2.1 = ls → r.2.2.2 = Z → W p l e R s m args below meth c H locs cells slots Q (F0 m r.1 lsA (r.2.2.1.map (zzV σ)))) : W p l e R s m args below meth c H locs cells slots Q (F0 m pc lsA (st.map (zzV σ))) := by
  unfold zzAr at h
  split at h
  · split at h
    · next f _ _ hf => cases h; exact zzs_bi hx hb hd (by assumption) (k rfl rfl)
    · next f _ _ => 
      split at h
      · cases h
      · next hy => cases h; exact zzs_di hx hb hd (by assumption) hy (k rfl rfl)
    · cases h; exact zzs_un hx hb hd (by assumption) (k rfl rfl)
    · cases h
  · split at h
    · cases h; exact zzs_un hx hb hd (by assumption) (k rfl rfl)
    · cases h
  · split at h
    · cases h; exact zzs_bl hx hb hd (by assumption) (k rfl rfl)
    · split at h
      · cases h
      · next hy => cases h; exact zzs_dl hx hb hd (by assumption) hy (k rfl rfl)
    · cases h
  · cases h
theorem zzTg_spec {off : Int} {t : Nat} (h : zzTg pc off = some t) : (pc : Int) + off = (t : Int) := by
  unfold zzTg at h
  split at h
  · next h0 => cases h; exact (Int.toNat_of_nonneg h0).symm
  · cases h
theorem zzs_cmp {cd : Jvm.ClassFile.Cond} {off : Int} {t : Nat} {x y : Int32} (hx : p.tables.exec = Jvm.exec) (hb : c.code = cc) (hd : decode cc pc = .ok (.if_icmp cd off, 3)) (ht : (pc : Int) + off = (t : Int))
    (k : W p l e R s m args below meth c H locs cells slots Q (F0 m (if zzCm cd x y = true then t else pc + 3) lsA rest)) : W p l e R s m args below meth c H locs cells slots Q (F0 m pc lsA (.int y :: .int x :: rest)) := by
  cases cd
  · exact lv_icmp_eq hx hb hd ht (fun q => by rw [if_pos (by simp [zzCm, q])] at k; exact k) (fun q => by rw [if_neg (by simp [zzCm, q])] at k; exact k)
  · exact lv_icmp_ne hx hb hd ht (fun q => by rw [if_pos (by simp [zzCm, q])] at k; exact k) (fun q => by rw [if_neg (by simp only [zzCm, decide_eq_true_eq]; exact fun z => z q)] at k; exact k)
  · exact lv_icmp_lt hx hb hd ht (fun q => by rw [if_pos (by simp only [zzCm, decide_eq_true_eq]; exact q)] at k; exact k) (fun q => by rw [if_neg (by simp only [zzCm, decide_eq_true_eq]; exact q)] at k; exact k)
  · exact lv_icmp_ge hx hb hd ht (fun q => by rw [if_pos (by simp only [zzCm, decide_eq_true_eq]; exact q)] at k; exact k) (fun q => by rw [if_neg (by simp only [zzCm, decide_eq_true_eq]; exact q)] at k; exact k)
  · exact lv_icmp_gt hx hb hd ht (fun q => by rw [if_pos (by simp only [zzCm, decide_eq_true_eq]; exact q)] at k; exact k) (fun q => by rw [if_neg (by simp only [zzCm, decide_eq_true_eq]; exact q)] at k; exact k)
  · exact lv_icmp_le hx hb hd ht (fun q => by rw [if_pos (by simp only [zzCm, decide_eq_true_eq]; exact q)] at k; exact k) (fun q => by rw [if_neg (by simp only [zzCm, decide_eq_true_eq]; exact q)] at k; exact k)
theorem zzs_if {cd : Jvm.ClassFile.Cond} {off : Int} {t : Nat} {x : Int32} (hx : p.tables.exec = Jvm.exec) (hb : c.code = cc) (hd : decode cc pc = .ok (.ifCond cd off, 3)) (ht : (pc : Int) + off = (t : Int))
    (k : W p l e R s m args below meth c H locs cells slots Q (F0 m (if zzCm cd x 0 = true then t else pc + 3) lsA rest)) : W p l e R s m args below meth c H locs cells slots Q (F0 m pc lsA (.int x :: rest)) := by
  cases cd
  · exact lv_if_eq hx hb hd ht (fun q => by rw [if_pos (by simp only [zzCm, decide_eq_true_eq]; exact q)] at k; exact k) (fun q => by rw [if_neg (by simp only [zzCm, decide_eq_true_eq]; exact q)] at k; exact k)
  · exact lv_if_ne hx hb hd ht (fun q => by rw [if_pos (by simp only [zzCm, decide_eq_true_eq]; exact q)] at k; exact k) (fun q => by rw [if_neg (by simp only [zzCm, decide_eq_true_eq]; exact fun z => z q)] at k; exact k)
  · exact lv_if_lt hx hb hd ht (fun q => by rw [if_pos (by simp only [zzCm, decide_eq_true_eq]; exact q)] at k; exact k) (fun q => by rw [if_neg (by simp only [zzCm, decide_eq_true_eq]; exact q)] at k; exact k)
  · exact lv_if_ge hx hb hd ht (fun q => by rw [if_pos (by simp only [zzCm, decide_eq_true_eq]; exact q)] at k; exact k) (fun q => by rw [if_neg (by simp only [zzCm, decide_eq_true_eq]; exact q)] at k; exact k)
  · exact lv_if_gt hx hb hd ht (fun q => by rw [if_pos (by simp only [zzCm, decide_eq_true_eq]; exact q)] at k; exact k) (fun q => by rw [if_neg (by simp only [zzCm, decide_eq_true_eq]; exact q)] at k; exact k)
  · exact lv_if_le hx hb hd ht (fun q => by rw [if_pos (by simp only [zzCm, decide_eq_true_eq]; exact q)] at k; exact k) (fun q => by rw [if_neg (by simp only [zzCm, decide_eq_true_eq]; exact q)] at k; exact k)
theorem zzs_flow {il : Instr × Nat} {st : List Value} {Z : zzH} {r : zzS} (hx : p.tables.exec = Jvm.exec) (hb : c.code = cc) (hd : decode cc pc = .ok il) (h : zzFlow pc il ls st Z = some r) (hl : lv_has lsA nL (zzAs σ 0 ls)) (hn : ls.length = nL)
    (k : ∀ lsA' : Array Slot, lv_has lsA' nL (zzAs σ 0 r.2.1) → r.2.1.length = nL → r.2.2.2 = Z → W p l e R s m args below meth c H locs cells slots Q (F0 m r.1 lsA' (r.2.2.1.map (zzV σ)))) : W p l e R s m args below meth c H locs cells slots Q (F0 m pc lsA (st.map (zzV σ))) := by
  unfold zzFlow at h
  split at h
  · obtain ⟨t, ht, rfl⟩ := Option.map_eq_some_iff.mp h
    exact lv_goto hx hb hd (zzTg_spec ht) (k _ hl hn rfl)
  · split at h
    · cases h; exact zzs_cmp hx hb hd (zzTg_spec (by assumption)) (k _ hl hn rfl)
    · cases h
  · split at h
    · cases h; exact zzs_if hx hb hd (zzTg_spec (by assumption)) (k _ hl hn rfl)
    · cases h
  · split at h
    · cases h; exact lv_ifnull hx hb hd (k _ hl hn rfl)
    · cases h; exact lv_ifnullN hx hb hd (zzTg_spec (by assumption)) (k _ hl hn rfl)
    · cases h
  · split at h
    · cases h; exact lv_ifnonnull hx hb hd (zzTg_spec (by assumption)) (k _ hl hn rfl)
    · cases h; exact lv_ifnonnullN hx hb hd (k _ hl hn rfl)
    · cases h
  · split at h
    · split at h
      · next ho =>
        obtain ⟨t, ht, rfl⟩ := Option.map_eq_some_iff.mp h
        exact lv_tableOut hx hb hd ho (zzTg_spec ht) (k _ hl hn rfl)
      · next ho =>
        split at h
        · next of hof =>
          obtain ⟨t, ht, rfl⟩ := Option.map_eq_some_iff.mp h
          exact lv_tableIn hx hb hd (fun q => ho (Or.inl q)) (fun q => ho (Or.inr q)) hof (zzTg_spec ht) (k _ hl hn rfl)
        · cases h
    · cases h
  · split at h
    · split at h
      · next hp =>
        obtain ⟨t, ht, rfl⟩ := Option.map_eq_some_iff.mp h
        exact lv_lookup hx hb hd hp rfl (zzTg_spec ht) (k _ hl hn rfl)
      · cases h
    · cases h
  · split at h
    · next i n x hi =>
      obtain ⟨ls', hs, rfl⟩ := Option.map_eq_some_iff.mp h
      have hlen := zzSet_len hs
      obtain ⟨hg, hs⟩ := zzSet_spec hs
      obtain ⟨j, hj⟩ := zz_ka (σ := σ) hi (by intro q; cases q)
      rcases hs with ⟨h1, -, -⟩ | ⟨-, h2, rfl⟩
      · cases h1
      · exact lv_iinc hx hb hd hl hj rfl (hn ▸ h2) rfl (fun q hq => k q (zz_set1 (v := .int _) hq hg) (hlen.trans hn) rfl)
    · cases h
  · split at h
    · split at h
      · next hc => cases h; exact lv_dup hx hb hd ((zzV_cat σ _).trans hc) (k _ hl hn rfl)
      · cases h
    · cases h
  · split at h
    · split at h
      · next hc => cases h; exact lv_pop hx hb hd ((zzV_cat σ _).trans hc) (k _ hl hn rfl)
      · cases h
    · cases h
  · split at h
    · split at h
      · next hc => cases h; exact lv_dup2_11 hx hb hd ((zzV_cat σ _).trans hc.1) ((zzV_cat σ _).trans hc.2) (k _ hl hn rfl)
      · cases h
    · cases h
  · split at h
    · cases h; exact lv_i2l hx hb hd rfl (k _ hl hn rfl)
    · cases h
  · split at h
    · cases h; exact lv_l2i hx hb hd rfl (k _ hl hn rfl)
    · cases h
  · split at h
    · cases h; exact W.lcmp hx hb hd (k _ hl hn rfl)
    · cases h
  · cases h
end ZZS
end
section
/-! fields, arrays, making, on the machine -/
def zzRel (B : Nat) (σ : Nat → Nat) (dC : Nat → ClassId) (dI : Nat → Nat → Nat) (ca : Nat → ClassId) (sx : Int64 × (Nat → Int32)) (Z : zzH) (H : Heap) : Prop :=
  Z.1.length ≤ 1000 ∧ va_P (dC, dI) vwCl (zzWs σ ca Z) H ∧ (∀ j, Z.2.2.2 2000 j = sx.2 j) ∧ Z.2.2.1 2000 0 = sx.1
theorem zzFs_len (σ : Nat → Nat) (Z : zzH) (c a : Nat) : (zzFs σ Z c a).length = zzN c := by simp [zzFs]
theorem zzFs_get {σ : Nat → Nat} {Z : zzH} {c a k : Nat} (hk : k < zzN c) : (zzFs σ Z c a)[k]? = some (zzV σ (zzFv Z c a k)) := by
  unfold zzFs
  rw [List.getElem?_map, List.getElem?_range hk]
  rfl
theorem zzFs_set {σ : Nat → Nat} {Z Z' : zzH} {c a k : Nat} {v : Value} (hk : k < zzN c) (h1 : zzFv Z' c a k = v) (h2 : ∀ j, j ≠ k → zzFv Z' c a j = zzFv Z c a j) : (zzFs σ Z c a).set k (zzV σ v) = zzFs σ Z' c a := by
  apply List.ext_getElem?
  intro i
  rw [List.getElem?_set, zzFs_len]
  by_cases hi : i < zzN c
  · by_cases e : k = i
    · subst e
      rw [if_pos rfl, if_pos hk, zzFs_get hk, h1]
    · rw [if_neg e, zzFs_get hi, zzFs_get hi, h2 i (Ne.symm e)]
  · have e1 : (zzFs σ Z c a)[i]? = none := List.getElem?_eq_none (by rw [zzFs_len]; omega)
    have e2 : (zzFs σ Z' c a)[i]? = none := List.getElem?_eq_none (by rw [zzFs_len]; omega)
    rw [e1, e2, if_neg (by omega)]
theorem zzCell_o {σ : Nat → Nat} {ca : Nat → ClassId} {Z : zzH} {a : Nat} {q : Nat × Nat} (h : q.1 < 8) : zzCell σ ca Z a q = .inr (q.1, zzFs σ Z q.1 a) := by
  unfold zzCell; rw [if_pos h]
theorem zzCell_8 {σ : Nat → Nat} {ca : Nat → ClassId} {Z : zzH} {a : Nat} {q : Nat × Nat} (h : q.1 = 8) : zzCell σ ca Z a q = .inl (ca 0, q.2, .inl (Z.2.2.2 a)) := by
  unfold zzCell; rw [h, if_neg (by omega), if_neg (by omega), if_neg (by omega)]
theorem zzCell_9 {σ : Nat → Nat} {ca : Nat → ClassId} {Z : zzH} {a : Nat} {q : Nat × Nat} (h : q.1 = 9) : zzCell σ ca Z a q = .inl (ca 1, q.2, .inl (Z.2.2.2 a)) := by
  unfold zzCell; rw [h, if_neg (by omega), if_neg (by omega), if_pos rfl]
theorem zzCell_10 {σ : Nat → Nat} {ca : Nat → ClassId} {Z : zzH} {a : Nat} {q : Nat × Nat} (h : q.1 = 10) : zzCell σ ca Z a q = .inl (ca 2, q.2, .inr (.inr (.inr (.inr (fun j => (Z.2.1 a j).map σ))))) := by
  unfold zzCell; rw [h, if_neg (by omega), if_pos rfl]
theorem zzCell_ne {σ : Nat → Nat} {ca : Nat → ClassId} {Z Z' : zzH} {x : Nat} (h1 : Z'.2.1 x = Z.2.1 x) (h2 : Z'.2.2.1 x = Z.2.2.1 x) (h3 : Z'.2.2.2 x = Z.2.2.2 x) (w : Nat × Nat) : zzCell σ ca Z' x w = zzCell σ ca Z x w := by
  have e : zzFs σ Z' w.1 x = zzFs σ Z w.1 x := by
    unfold zzFs
    exact List.map_congr_left fun k _ => by unfold zzFv; rw [h1, h2, h3]
  unfold zzCell
  rw [e, h1, h3]
theorem zzPut_spec {σ : Nat → Nat} {Z Z' : zzH} {c a k : Nat} {v : Value} (h : zzPut Z c a k v = some Z') (hc : c < 8) (hk : k < zzN c) :
    Z'.1 = Z.1 ∧ narrow (zzTy c k) (zzV σ v) = zzV σ v ∧ fits (zzTy c k) (zzV σ v) = true ∧ zzFv Z' c a k = v ∧ (∀ j, j ≠ k → zzFv Z' c a j = zzFv Z c a j) ∧ ∀ x, x ≠ a → Z'.2.1 x = Z.2.1 x ∧ Z'.2.2.1 x = Z.2.2.1 x ∧ Z'.2.2.2 x = Z.2.2.2 x := by
  obtain ⟨-, t0, t1, t2, t3, -⟩ := zzTy_ok c hc k hk
  unfold zzPut at h
  split at h
  · next _ _ x ht =>
    cases h
    refine ⟨rfl, by rw [t0 ht]; rfl, by rw [t0 ht]; rfl, ?_, fun j hj => ?_, fun x hx => ⟨rfl, rfl, zzUp_ne hx⟩⟩
    · unfold zzFv; rw [ht]; simp [zzUp_eq]
    · unfold zzFv; simp [zzUp_eq, hj]
  · next _ _ x ht =>
    split at h
    · next hx01 =>
      cases h
      refine ⟨rfl, ?_, ?_, ?_, fun j hj => ?_, fun x hx => ⟨rfl, rfl, zzUp_ne hx⟩⟩
      · rw [t1 ht]; rcases hx01 with rfl | rfl <;> rfl
      · rw [t1 ht]; rcases hx01 with rfl | rfl <;> rfl
      · unfold zzFv; rw [ht]; simp [zzUp_eq]
      · unfold zzFv; simp [zzUp_eq, hj]
    · cases h
  · next _ _ x ht =>
    cases h
    refine ⟨rfl, by rw [t2 ht]; rfl, by rw [t2 ht]; rfl, ?_, fun j hj => ?_, fun x hx => ⟨rfl, zzUp_ne hx, rfl⟩⟩
    · unfold zzFv; rw [ht]; simp [zzUp_eq]
    · unfold zzFv; simp [zzUp_eq, hj]
  · next _ _ x ht =>
    split at h
    · cases h
      refine ⟨rfl, zz_narR _ _ (t3 ht).1, (zz_fits _ _ 0).trans (t3 ht).1, ?_, fun j hj => ?_, fun x hx => ⟨zzUp_ne hx, rfl, rfl⟩⟩
      · unfold zzFv; rw [ht]; simp [zzUp_eq, va_rf]
      · unfold zzFv; simp [zzUp_eq, hj]
    · cases h
  · next _ _ ht =>
    cases h
    refine ⟨rfl, (t3 ht).2.2, (t3 ht).2.1, ?_, fun j hj => ?_, fun x hx => ⟨zzUp_ne hx, rfl, rfl⟩⟩
    · unfold zzFv; rw [ht]; simp [zzUp_eq, va_rf]
    · unfold zzFv; simp [zzUp_eq, hj]
  · cases h
theorem zz_lt {Z : zzH} {a : Nat} {q : Nat × Nat} (h : Z.1[a]? = some q) (hZ : Z.1.length ≤ 1000) : a < 1000 := Nat.lt_of_lt_of_le (List.getElem?_eq_some_iff.mp h).1 hZ
theorem zzNew_n3 {Z : zzH} {c n x : Nat} (h : x ≠ Z.1.length) : (zzNew Z c n).2.2.2 x = Z.2.2.2 x := zzRo_ne h
theorem zzNew_n2 {Z : zzH} {c n x : Nat} (h : x ≠ Z.1.length) : (zzNew Z c n).2.2.1 x = Z.2.2.1 x := zzRo_ne h
theorem zzNew_e3 {Z : zzH} {c n : Nat} : (zzNew Z c n).2.2.2 Z.1.length = fun _ => 0 := zzRo_eq
theorem zzNew_e1 {Z : zzH} {c n : Nat} : (zzNew Z c n).2.1 Z.1.length = fun _ => none := zzRo_eq
section ZZM
variable {p : Program} {l : Launch} {e : Env} {R : Room} {s : State} {m : MethodId} {args : Array Value} {below : List Frame} {meth : Method} {c : Code} {H : Heap} {locs : List Loc} {cells slots : Nat} {Q : State → Prop}
variable {cc : ByteArray} {pc nL : Nat} {lsA : Array Slot} {σ : Nat → Nat} {ls : List Value} {own B : Nat} {dC : Nat → ClassId} {dI : Nat → Nat → Nat} {ca : Nat → ClassId} {sx : Int64 × (Nat → Int32)}
/-- the heap's size, where the cells that were made are counted -/
theorem zz_size {T : State} {Z : zzH} {L0 : Nat} (X : Stand p l e R s m args below meth c T locs cells slots) (hT : T.heap = H) (hσ : ∀ a, a < 1000 → σ a = B + a) (hrel : zzRel B σ dC dI ca sx Z H) (hS : va_S (fun q : Nat => B ≤ q) s.heap H locs) (h0 : s.heap.size = B + L0) (hc : cells + L0 = Z.1.length) : H.size = B + Z.1.length := by
  have h1 := X.heapSize
  rw [hT] at h1
  have h2 := hS.1
  obtain ⟨hZ, hP, -⟩ := hrel
  rcases Nat.eq_zero_or_pos Z.1.length with hz | hz
  · omega
  · have hq : Z.1[Z.1.length - 1]? = some (Z.1[Z.1.length - 1]'(by omega)) := List.getElem?_eq_getElem (by omega)
    have h3 := (hP _ _ (zzWs_at hq)).lt
    dsimp only at h3
    rw [hσ _ (by omega)] at h3
    omega
theorem zzm_get {i a c0 k : Nat} {q : Nat × Nat} {Z : zzH} {rest : List Value} (hx : p.tables.exec = Jvm.exec) (hb : c.code = cc) (hd : decode cc pc = .ok (.getfield i, 3)) (hown : s.vm.findClass (zzR own) = some m.cls) (hts : ∀ w ∈ ZW, w.before args s = true) (hK : va_K (dC, dI) vwCl (zzTys ca) s) (hP : va_P (dC, dI) vwCl (zzWs σ ca Z) H)
    (hf : zzGet zzFL own i = some (c0, k)) (hq : Z.1[a]? = some q) (hqc : q.1 = c0)
    (kk : W p l e R s m args below meth c H locs cells slots Q (F0 m (pc + 3) lsA (zzV σ (zzFv Z c0 a k) :: rest))) : W p l e R s m args below meth c H locs cells slots Q (F0 m pc lsA (.ref (σ a) :: rest)) := by
  have hm := zzGet_mem hf
  obtain ⟨h1, h2⟩ := zzFLr _ hm
  have hw := zzFLw _ hm
  dsimp only at h1 h2 hw
  subst hqc
  have ht := zzTy_ok _ h1 _ h2
  exact va_get hx hb hts (zzUW h1) hown hK hP a (by rw [zzWs_at hq, zzCell_o h1]) (zzCl_ok _ h1) k h2 (hts _ (ZW_of hw.1 hw.2)) (fun x h => by rw [← ht.2.2.2.2.2.2.1]; exact h) (zzFs_get h2) hd kk
theorem zzm_put {i a c0 k : Nat} {q : Nat × Nat} {Z Z' : zzH} {v : Value} {ini : Bool} {rest : List Value} (hx : p.tables.exec = Jvm.exec) (hb : c.code = cc) (hd : decode cc pc = .ok (.putfield i, 3)) (hown : s.vm.findClass (zzR own) = some m.cls) (hts : ∀ w ∈ ZW, w.before args s = true) (hK : va_K (dC, dI) vwCl (zzTys ca) s)
    (hσ : ∀ a, a < 1000 → σ a = B + a) (hrel : zzRel B σ dC dI ca sx Z H) (hS : va_S (fun q : Nat => B ≤ q) s.heap H locs) (hini : ini = true → meth.name = "<init>")
    (hf : zzGet zzFL own i = some (c0, k)) (hq : Z.1[a]? = some q) (hqc : q.1 = c0) (hfin : zzFin c0 k = false ∨ (ini = true ∧ own = c0)) (hput : zzPut Z c0 a k v = some Z')
    (kk : ∀ (H' : Heap) (locs' : List Loc), Z'.1 = Z.1 → zzRel B σ dC dI ca sx Z' H' → va_S (fun q : Nat => B ≤ q) s.heap H' locs' → W p l e R s m args below meth c H' locs' cells slots Q (F0 m (pc + 3) lsA rest)) : W p l e R s m args below meth c H locs cells slots Q (F0 m pc lsA (zzV σ v :: .ref (σ a) :: rest)) := by
  have hm := zzGet_mem hf
  obtain ⟨h1, h2⟩ := zzFLr _ hm
  have hw := zzFLw _ hm
  dsimp only at h1 h2 hw
  subst hqc
  have ht := zzTy_ok _ h1 _ h2
  obtain ⟨hZ, hP, hs1, hs2⟩ := hrel
  obtain ⟨p1, p2, p3, p4, p5, p6⟩ := zzPut_spec (σ := σ) (a := a) hput h1 h2
  have ha := zz_lt hq hZ
  have hne : (2000 : Nat) ≠ a := by omega
  have hset := zzWs_set (σ := σ) (ca := ca) (Z := Z) (Z' := Z') p1 hq (e := .inr (q.1, (zzFs σ Z q.1 a).set k (zzV σ v))) (by rw [zzCell_o h1, zzFs_set h2 p4 p5]) (fun x w hxa => zzCell_ne (p6 x hxa).1 (p6 x hxa).2.1 (p6 x hxa).2.2 w)
  have hfinish : ∀ (H1 : Heap) (locs1 : List Loc), va_P (dC, dI) vwCl ((zzWs σ ca Z).set a (σ a, .inr (q.1, (zzFs σ Z q.1 a).set k (zzV σ v)))) H1 → va_D (fun q : Nat => B ≤ q) ((zzWs σ ca Z).set a (σ a, .inr (q.1, (zzFs σ Z q.1 a).set k (zzV σ v)))) → va_S (fun q : Nat => B ≤ q) s.heap H1 locs1 → W p l e R s m args below meth c H1 locs1 cells slots Q (F0 m (pc + 3) lsA rest) := by
    intro H1 locs1 hP1 _ hS1
    rw [hset] at hP1
    exact kk H1 locs1 p1 ⟨by rw [p1]; exact hZ, hP1, fun j => by rw [(p6 _ hne).2.2]; exact hs1 j, by rw [(p6 _ hne).2.1]; exact hs2⟩ hS1
  have he : (zzWs σ ca Z)[a]? = some (σ a, .inr (q.1, zzFs σ Z q.1 a)) := by rw [zzWs_at hq, zzCell_o h1]
  have hsame : ∀ x, s.fieldFound? (zzTf q.1 k).1 (zzTf q.1 k).2.1 (zzTf q.1 k).2.2.1 = some x → s.fieldFound? (zzR q.1) (zzTf q.1 k).2.1 (zzTf q.1 k).2.2.1 = some x := fun x h => by rw [← ht.2.2.2.2.2.2.1]; exact h
  cases hfn : zzFin q.1 k with
  | false =>
    exact va_put hx hb hts (zzUW h1) (zzTy q.1) (fun k hk => (zzTy_ok _ h1 _ hk).1) (zzNm_ok _ h1) hown hK hP (zzWs_D hσ hZ) hS a he (zzCl_ok _ h1) k h2 (hts _ (ZW_of hw.1 hw.2)) hsame (ht.2.2.2.2.2.1.trans hfn) ht.1 p2 p3 (by rw [zzFs_len]; exact h2) hd hfinish
  | true =>
    rcases hfin with h | ⟨g1, g2⟩
    · rw [hfn] at h; cases h
    · exact va_putF hx hb hts (zzUW h1) (zzTy q.1) (fun k hk => (zzTy_ok _ h1 _ hk).1) (zzNm_ok _ h1) hown hK hP (zzWs_D hσ hZ) hS a he (zzCl_ok _ h1) k h2 (hts _ (ZW_of hw.1 hw.2)) hsame (ht.2.2.2.2.2.1.trans hfn) (hini g1) (by rw [ht.2.2.2.2.2.2.1, g2]) ht.1 p2 p3 (by rw [zzFs_len]; exact h2) hd hfinish
/-- a row's contents change -/
theorem zzm_row {a : Nat} {q : Nat × Nat} {Z Z' : zzH} {e1 : va_E} (hrel : zzRel B σ dC dI ca sx Z H) (hq : Z.1[a]? = some q) (h1 : Z'.1 = Z.1) (he : zzCell σ ca Z' a q = e1) (ho : ∀ x, x ≠ a → Z'.2.1 x = Z.2.1 x ∧ Z'.2.2.1 x = Z.2.2.1 x ∧ Z'.2.2.2 x = Z.2.2.2 x) {H1 : Heap} (hP1 : va_P (dC, dI) vwCl ((zzWs σ ca Z).set a (σ a, e1)) H1) : zzRel B σ dC dI ca sx Z' H1 := by
  obtain ⟨hZ, hP, hs1, hs2⟩ := hrel
  have hset := zzWs_set (σ := σ) (ca := ca) (Z := Z) (Z' := Z') h1 hq he (fun x w hxa => zzCell_ne (ho x hxa).1 (ho x hxa).2.1 (ho x hxa).2.2 w)
  rw [hset] at hP1
  have ha := zz_lt hq hZ
  have hne : (2000 : Nat) ≠ a := by omega
  exact ⟨by rw [h1]; exact hZ, hP1, fun j => by rw [(ho _ hne).2.2]; exact hs1 j, by rw [(ho _ hne).2.1]; exact hs2⟩
theorem zzUp_upd {f : Nat → Nat → Int32} {a k : Nat} {v : Int32} : zzUp f a k v a = upd (f a) k v := by
  funext j
  rw [zzUp_eq]; rfl
theorem zz_nar01 {x : Int32} (h : x = 0 ∨ x = 1) : vp_nar .boolean x = x := by
  rcases h with rfl | rfl <;> decide
theorem zzm_new {i c0 L0 S0 : Nat} {Z : zzH} {rest : List Value} (hx : p.tables.exec = Jvm.exec) (hb : c.code = cc) (hd : decode cc pc = .ok (.new i, 3)) (hown : s.vm.findClass (zzR own) = some m.cls) (hts : ∀ w ∈ ZW, w.before args s = true) (hK : va_K (dC, dI) vwCl (zzTys ca) s)
    (hσ : ∀ a, a < 1000 → σ a = B + a) (hrel : zzRel B σ dC dI ca sx Z H) (hS : va_S (fun q : Nat => B ≤ q) s.heap H locs) (h0 : s.heap.size = B + L0) (hc : cells + L0 = Z.1.length) (hsl : slots + S0 = zzSl Z) (hcl : zzGet zzCL own i = some c0) (hlt : Z.1.length < 1000)
    (hcap : (zzNew Z c0 (zzN c0)).1.length ≤ R.cells + L0) (hscap : zzSl (zzNew Z c0 (zzN c0)) ≤ R.slots + S0)
    (kk : ∀ H' : Heap, zzRel B σ dC dI ca sx (zzNew Z c0 (zzN c0)) H' → va_S (fun q : Nat => B ≤ q) s.heap H' locs → W p l e R s m args below meth c H' locs (cells + 1) (slots + zzN c0) Q (F0 m (pc + 3) lsA (.ref (σ Z.1.length) :: rest))) : W p l e R s m args below meth c H locs cells slots Q (F0 m pc lsA rest) := by
  intro T hT X
  have hsz := zz_size X hT hσ hrel hS h0 hc
  refine (?_ : W p l e R s m args below meth c H locs cells slots Q (F0 m pc lsA rest)) T hT X
  have hm := zzGet_mem hcl
  have hw := zzCLw _ hm
  obtain ⟨g1, g2, g3⟩ := zzCLi _ hm
  dsimp only at hw g1 g2 g3
  have hKn := hK.1 _ _ (zzCl_ok _ g1)
  obtain ⟨hZ, hP, hs1, hs2⟩ := hrel
  have e1 : (zzNew Z c0 (zzN c0)).1.length = Z.1.length + 1 := by simp [zzNew]
  rw [zzSl_new] at hscap
  rw [e1] at hcap
  refine W.newcK hx hb hown (hts _ (ZW_of hw.1 hw.2)) (hts _ (ZW_of g2.1 g2.2)) (hts _ (ZW_of g3.1 g3.2)) rfl hd (by omega) (by omega) hKn.2.1 rfl fun H1 kC hkC e1 z1 o1 => ?_
  have hk : ∀ (k : Nat) (x : Nat × va_E), (zzWs σ ca Z)[k]? = some x → H1[x.1]? = H[x.1]? := fun k x hx => o1 x.1 ((hP k x hx).lt)
  have hH : H.size = σ Z.1.length := by rw [hsz, hσ _ hlt]
  rw [hH] at e1 ⊢
  refine kk H1 ⟨by simp [zzNew]; omega, ?_, fun j => ?_, ?_⟩ ⟨Nat.le_trans hS.1 (by omega), fun x h1 h2 => (o1 x (Nat.lt_of_lt_of_le h1 hS.1)).trans (hS.2.1 x h1 h2), hS.2.2⟩
  · rw [← zzWs_push]
    refine (hP.kept hk).app (fun k x hx => ?_)
    have hz : k < 1 := (List.getElem?_eq_some_iff.mp hx).1
    rw [show k = 0 by omega] at hx
    cases hx
    rw [zzCell_o (q := (c0, zzN c0)) g1]
    refine ⟨_, zzCl_ok _ g1, (u_born (zzTy c0) hts (zzUW g1) hKn hkC e1 (fun k hk => (zzTy_ok _ g1 _ hk).1)).to (fun j hj => ?_)⟩
    dsimp only
    rw [(zzTy_ok _ g1 _ hj).2.2.2.2.2.2.2]
    unfold vp_V
    rw [List.getD_eq_getElem?_getD, zzFs_get hj]
    unfold zzFv zzNew
    dsimp only
    rw [zzRo_eq, zzRo_eq, zzRo_eq]
    generalize zzT c0 j = t
    rcases t with _ | _ | _ | _ | t <;> rfl
  · rw [zzNew_n3 (by omega)]; exact hs1 j
  · rw [zzNew_n2 (by omega)]; exact hs2
/-- a new row, of a kind of array -/
theorem zzm_row1 {c0 n : Nat} {Z : zzH} {H1 : Heap} (hσ : ∀ a, a < 1000 → σ a = B + a) (hrel : zzRel B σ dC dI ca sx Z H) (hsz : H.size = B + Z.1.length) (hlt : Z.1.length < 1000) (z1 : H1.size = H.size + 1) (o1 : ∀ q, q < H.size → H1[q]? = H[q]?)
    (hat : va_at (dC, dI) vwCl (σ Z.1.length, zzCell σ ca (zzNew Z c0 n) Z.1.length (c0, n)) H1) : zzRel B σ dC dI ca sx (zzNew Z c0 n) H1 := by
  obtain ⟨hZ, hP, hs1, hs2⟩ := hrel
  have hk : ∀ (k : Nat) (x : Nat × va_E), (zzWs σ ca Z)[k]? = some x → H1[x.1]? = H[x.1]? := fun k x hx => o1 x.1 ((hP k x hx).lt)
  refine ⟨by simp [zzNew]; omega, ?_, fun j => ?_, ?_⟩
  · rw [← zzWs_push]
    refine (hP.kept hk).app (fun k x hx => ?_)
    have hz : k < 1 := (List.getElem?_eq_some_iff.mp hx).1
    rw [show k = 0 by omega] at hx
    cases hx
    exact hat
  · rw [zzNew_n3 (by omega)]; exact hs1 j
  · rw [zzNew_n2 (by omega)]; exact hs2
theorem zzm_newa {c0 L0 S0 : Nat} {at0 : ArrayType} {n : Int32} {Z : zzH} {rest : List Value} (hx : p.tables.exec = Jvm.exec) (hb : c.code = cc) (hd : decode cc pc = .ok (.newarray at0, 2)) (hK : va_K (dC, dI) vwCl (zzTys ca) s)
    (hkind : (at0 = .int ∧ c0 = 8) ∨ (at0 = .boolean ∧ c0 = 9)) (harr : (Jvm.Cond.arrayClass (newarray.typeOf at0)).before args s = true)
    (hσ : ∀ a, a < 1000 → σ a = B + a) (hrel : zzRel B σ dC dI ca sx Z H) (hS : va_S (fun q : Nat => B ≤ q) s.heap H locs) (h0 : s.heap.size = B + L0) (hc : cells + L0 = Z.1.length) (hsl : slots + S0 = zzSl Z) (hlt : Z.1.length < 1000) (hn : ¬ n < 0) (hn2 : n.toNatClampNeg ≤ 100000)
    (hcap : (zzNew Z c0 n.toNatClampNeg).1.length ≤ R.cells + L0) (hscap : zzSl (zzNew Z c0 n.toNatClampNeg) ≤ R.slots + S0)
    (kk : ∀ H' : Heap, zzRel B σ dC dI ca sx (zzNew Z c0 n.toNatClampNeg) H' → va_S (fun q : Nat => B ≤ q) s.heap H' locs → W p l e R s m args below meth c H' locs (cells + 1) (slots + n.toNatClampNeg) Q (F0 m (pc + 2) lsA (.ref (σ Z.1.length) :: rest))) : W p l e R s m args below meth c H locs cells slots Q (F0 m pc lsA (.int n :: rest)) := by
  intro T hT X
  have hsz := zz_size X hT hσ hrel hS h0 hc
  refine (?_ : W p l e R s m args below meth c H locs cells slots Q (F0 m pc lsA (.int n :: rest))) T hT X
  have e1 : (zzNew Z c0 n.toNatClampNeg).1.length = Z.1.length + 1 := by simp [zzNew]
  rw [zzSl_new] at hscap
  rw [e1] at hcap
  refine va_newaK hx hb harr rfl hd rfl hn rfl (by rcases hkind with ⟨rfl, -⟩ | ⟨rfl, -⟩ <;> (show _ * _ ≤ _; simp [componentBytes, newarray.typeOf]; omega)) (by omega) (by omega) rfl fun H1 cA e1 z1 o1 hAr hNm => ?_
  have hH : H.size = σ Z.1.length := by rw [hsz, hσ _ hlt]
  have hrel1 : zzRel B σ dC dI ca sx (zzNew Z c0 n.toNatClampNeg) H1 := by
    refine zzm_row1 hσ hrel hsz hlt z1 o1 ?_
    rw [hH] at e1
    rcases hkind with ⟨rfl, rfl⟩ | ⟨rfl, rfl⟩
    · have hcA : cA = ca 0 := Option.some.inj (hNm.symm.trans (hK.2 0 _ rfl).2)
      subst hcA
      rw [zzCell_8 rfl]
      show H1[σ Z.1.length]? = some (vp_cell _ _)
      refine e1.trans ?_
      rw [zzNew_e3]
      rfl
    · have hcA : cA = ca 1 := Option.some.inj (hNm.symm.trans (hK.2 1 _ rfl).2)
      subst hcA
      rw [zzCell_9 rfl]
      show H1[σ Z.1.length]? = some (vp_cell _ _)
      refine e1.trans ?_
      rw [zzNew_e3]
      rfl
  rw [hH]
  exact kk H1 hrel1 ⟨Nat.le_trans hS.1 (by omega), fun x h1 h2 => (o1 x (Nat.lt_of_lt_of_le h1 hS.1)).trans (hS.2.1 x h1 h2), hS.2.2⟩
theorem zzm_newq {i L0 S0 : Nat} {n : Int32} {Z : zzH} {rest : List Value} (hx : p.tables.exec = Jvm.exec) (hb : c.code = cc) (hd : decode cc pc = .ok (.anewarray i, 3)) (hown : s.vm.findClass (zzR own) = some m.cls) (hts : ∀ w ∈ ZW, w.before args s = true) (hK : va_K (dC, dI) vwCl (zzTys ca) s) (hao : va_AO RX4 s)
    (hσ : ∀ a, a < 1000 → σ a = B + a) (hrel : zzRel B σ dC dI ca sx Z H) (hS : va_S (fun q : Nat => B ≤ q) s.heap H locs) (h0 : s.heap.size = B + L0) (hc : cells + L0 = Z.1.length) (hsl : slots + S0 = zzSl Z) (hcl : zzGet zzCL own i = some 4) (hlt : Z.1.length < 1000) (hn : ¬ n < 0) (hn2 : n.toNatClampNeg ≤ 100000)
    (hcap : (zzNew Z 10 n.toNatClampNeg).1.length ≤ R.cells + L0) (hscap : zzSl (zzNew Z 10 n.toNatClampNeg) ≤ R.slots + S0)
    (kk : ∀ H' : Heap, zzRel B σ dC dI ca sx (zzNew Z 10 n.toNatClampNeg) H' → va_S (fun q : Nat => B ≤ q) s.heap H' locs → W p l e R s m args below meth c H' locs (cells + 1) (slots + n.toNatClampNeg) Q (F0 m (pc + 3) lsA (.ref (σ Z.1.length) :: rest))) : W p l e R s m args below meth c H locs cells slots Q (F0 m pc lsA (.int n :: rest)) := by
  intro T hT X
  have hsz := zz_size X hT hσ hrel hS h0 hc
  refine (?_ : W p l e R s m args below meth c H locs cells slots Q (F0 m pc lsA (.int n :: rest))) T hT X
  have e1 : (zzNew Z 10 n.toNatClampNeg).1.length = Z.1.length + 1 := by simp [zzNew]
  rw [zzSl_new] at hscap
  rw [e1] at hcap
  have hw := zzCLw _ (zzGet_mem hcl)
  refine W.anew hx hb hown (C := RX4) (hts _ (ZW_of hw.1 hw.2)) (va_AO.use hao) rfl hd rfl hn (by omega) (by omega) (by omega) fun cA kA comp f1 f2 f3 f4 => ?_
  generalize hH1 : H.push ({ cls := cA, slots := Array.replicate n.toNatClampNeg .null, vm := .none } : Cell) = H1
  have z1 : H1.size = H.size + 1 := by rw [← hH1, Array.size_push]
  have e1 : H1[H.size]? = some (arrV cA n.toNatClampNeg (fun _ => .null)) := by rw [← hH1, Array.getElem?_push_size, ← arrV_new]
  have o1 : ∀ q : Nat, q < H.size → H1[q]? = H[q]? := fun q hq => by rw [← hH1, Array.getElem?_push, if_neg (Nat.ne_of_lt hq)]
  have hH : H.size = σ Z.1.length := by rw [hsz, hσ _ hlt]
  have hrel1 : zzRel B σ dC dI ca sx (zzNew Z 10 n.toNatClampNeg) H1 := by
    refine zzm_row1 hσ hrel hsz hlt z1 o1 ?_
    rw [hH] at e1
    have hra := (hK.2 2 _ rfl).2
    obtain ⟨kA', comp', -, -, -, hf⟩ := hra
    have hcA : cA = ca 2 := Option.some.inj (f1.symm.trans hf)
    subst hcA
    rw [zzCell_10 rfl]
    show H1[σ Z.1.length]? = some (vp_cell _ _)
    refine e1.trans ?_
    rw [zzNew_e1]
    rfl
  rw [hH]
  exact kk H1 hrel1 ⟨Nat.le_trans hS.1 (by omega), fun x h1 h2 => (o1 x (Nat.lt_of_lt_of_le h1 hS.1)).trans (hS.2.1 x h1 h2), hS.2.2⟩
end ZZM
end
section
/-! what a frame has from its start; calls; Object's constructor, arraycopy, the texts -/
/-- of the machine's tables and of what lies outside the memory: the same in every frame -/
def zzFr (B : Nat) (σ : Nat → Nat) (dC : Nat → ClassId) (dI : Nat → Nat → Nat) (ca : Nat → ClassId) (sx : Int64 × (Nat → Int32)) (adV : Nat → Nat) (U : State) (H : Heap) : Prop :=
  va_K (dC, dI) vwCl (zzTys ca) U ∧ va_AO RX4 U ∧ (∀ r ∈ zzNest, va_Nw (.methodLinkNest (zzR r.1) r.2.1 (zzM r.2.2).1 RX6) U) ∧ B ≤ H.size ∧
  (va_X (σ 2000) sx.1.toNatClampNeg sx.2 U H ∧ σ 2000 < B) ∧
  (∀ (o i k : Nat), zzGet zzKS o i = some k → vk_R (zzR o) i (zzKt.getD k "") (σ (1000 + k)) U) ∧
  vk_S 13 (zzKc.map List.length) (zzKc.map fun l => l.map fun n => Int32.ofNat n) (fun i => σ (1000 + i)) adV (fun q : Nat => B ≤ q) U H ∧
  va_Z "java/lang/String" "COMPACT_STRINGS" "Z" (.int 1) (fun q : Nat => B ≤ q) U H ∧
  va_Zq "jdk/internal/util/Preconditions" "SIOOBE_FORMATTER" "Ljava/util/function/BiFunction;" (fun q : Nat => B ≤ q) U H
theorem zzFr.moved {B : Nat} {σ : Nat → Nat} {dC : Nat → ClassId} {dI : Nat → Nat → Nat} {ca : Nat → ClassId} {sx : Int64 × (Nat → Int32)} {adV : Nat → Nat} {u U : State} {H H1 : Heap} (h : zzFr B σ dC dI ca sx adV u H) (hW : u.WarmedH U.vm) (hsz : B ≤ H1.size) (hH : ∀ a : Nat, a < H.size → ¬ B ≤ a → H1[a]? = H[a]?) : zzFr B σ dC dI ca sx adV U H1 := by
  obtain ⟨h1, h2, h3, h4, ⟨h5, h6⟩, h7, h8, h9, h10⟩ := h
  have hvm := hW.alike
  refine ⟨va_K.moved hvm h1, ?_, fun r hr => va_Nw.warmM hW (h3 r hr), hsz, ⟨(h5.kept (hH _ (Nat.lt_of_lt_of_le h6 h4) (Nat.not_le.mpr h6))).moved hvm, h6⟩, fun o i k hk => (h7 o i k hk).warm hW, (h8.kept hH).moved hvm, ?_, ?_⟩
  · exact va_AO.moved hvm h2
  · exact (h9.kept hH).moved hvm
  · exact (h10.kept hH).moved hvm
theorem zzFr.same {B : Nat} {σ : Nat → Nat} {dC : Nat → ClassId} {dI : Nat → Nat → Nat} {ca : Nat → ClassId} {sx : Int64 × (Nat → Int32)} {adV : Nat → Nat} {U : State} {H : Heap} {a : Array Value} {g : JFrame} {mk : MethodId} (h : zzFr B σ dC dI ca sx adV U H) : zzFr B σ dC dI ca sx adV (U.calling g mk a) H := by
  obtain ⟨h1, h2, h3, h4, ⟨h5, h6⟩, h7, h8, h9, h10⟩ := h
  have hvm : U.vm.Alike (U.calling g mk a).vm := Vm.Alike.refl U.vm
  refine ⟨va_K.moved hvm h1, ?_, fun r hr => va_Nw.same rfl rfl (h3 r hr), h4, ⟨h5.moved hvm, h6⟩, fun o i k hk => (h7 o i k hk).same rfl, h8.moved hvm, ?_, ?_⟩
  · exact va_AO.moved hvm h2
  · exact h9.moved hvm
  · exact h10.moved hvm
/-- a method's start, in words of the memory -/
def zzPre (B : Nat) (σ : Nat → Nat) (dC : Nat → ClassId) (dI : Nat → Nat → Nat) (ca : Nat → ClassId) (sx : Int64 × (Nat → Int32)) (adV : Nat → Nat) (Z : zzH) (U : State) : Prop :=
  zzFr B σ dC dI ca sx adV U U.heap ∧ zzRel B σ dC dI ca sx Z U.heap ∧ U.heap.size = B + Z.1.length
/-- and its end -/
def zzQ (B : Nat) (σ : Nat → Nat) (dC : Nat → ClassId) (dI : Nat → Nat → Nat) (ca : Nat → ClassId) (sx : Int64 × (Nat → Int32)) (r : Option Value) (Z : zzH) : Array Value → State → Outcome → State → Prop := fun _ st oc t =>
  oc = .returned (r.map (zzV σ)) ∧ zzRel B σ dC dI ca sx Z t.heap ∧ va_F (fun q : Nat => B ≤ q) st t
def zzRm (d mc ms : Nat) : Room := { frames := d + 9, cells := mc, slots := ms, locals := 40 * d + 400 }
theorem zzPre_blind {B : Nat} {σ : Nat → Nat} {dC : Nat → ClassId} {dI : Nat → Nat → Nat} {ca : Nat → ClassId} {sx : Int64 × (Nat → Int32)} {adV : Nat → Nat} {Z : zzH} {as : List Value} : FrameBlind (va_Pc as (zzPre B σ dC dI ca sx adV Z)) :=
  fun _ _ _ _ h => ⟨h.1, h.2.1.same, h.2.2.1, h.2.2.2⟩
section ZZC
variable {p : Program} {l : Launch} {e : Env} {R : Room} {s : State} {m : MethodId} {args : Array Value} {below : List Frame} {meth : Method} {c : Code} {H : Heap} {locs : List Loc} {cells slots : Nat} {Q : State → Prop}
variable {cc : ByteArray} {pc nL : Nat} {lsA : Array Slot} {σ : Nat → Nat} {ls : List Value} {own B : Nat} {dC : Nat → ClassId} {dI : Nat → Nat → Nat} {ca : Nat → ClassId} {sx : Int64 × (Nat → Int32)} {adV : Nat → Nat}
theorem zz_call {r : Option Value} {Z' : zzH} {mc ms : Nat} {rest st0 : List Value} {a : Array Value} (hr : va_Run p l e R s m args below meth c H locs cells slots mc ms (F0 m pc lsA st0) rest (zzQ B σ dC dI ca sx r Z' a) (fun q : Nat => B ≤ q)) (hS : va_S (fun q : Nat => B ≤ q) s.heap H locs)
    (kk : ∀ (H1 : Heap) (locs1 : List Loc), zzRel B σ dC dI ca sx Z' H1 → va_S (fun q : Nat => B ≤ q) s.heap H1 locs1 → W p l e R s m args below meth c H1 locs1 (cells + mc) (slots + ms) Q (F0 m (pc + 3) lsA ((r.map (zzV σ)).toList ++ rest))) : W p l e R s m args below meth c H locs cells slots Q (F0 m pc lsA st0) := by
  intro T hT X
  obtain ⟨v, st₀, t, T', L, h0, X', hL, e1, e2, ⟨hv, hrel, hz, hk⟩, st⟩ := hr T hT X
  cases hv
  rw [h0] at hz hk
  obtain ⟨t2, a1, b1⟩ := kk T'.heap (locs ++ L) (by rw [e1]; exact hrel)
    ⟨Nat.le_trans hS.1 (by rw [e1]; exact hz), fun q h1 h2 => by rw [e1, hk q (Nat.lt_of_lt_of_le h1 hS.1) h2]; exact hS.2.1 q h1 h2, fun q hq => by
      rcases List.mem_append.mp hq with h | h
      · exact hS.2.2 q h
      · exact hL q h⟩ T' rfl X'
  exact ⟨t2, st t2 a1, b1⟩
/-- the start of a callee, where the caller stands -/
theorem zz_pre {Z : zzH} {as : List Value} {U : State} (hfr : zzFr B σ dC dI ca sx adV s s.heap) (hrel : zzRel B σ dC dI ca sx Z H) (hsz : H.size = B + Z.1.length) (hS : va_S (fun q : Nat => B ≤ q) s.heap H locs) (hU : U.heap = H) (hW : s.WarmedH U.vm) : va_Pc as (zzPre B σ dC dI ca sx adV Z) as.toArray U := by
  subst hU
  exact ⟨rfl, hfr.moved hW (by omega) (fun a h1 h2 => hS.2.1 a h1 h2), hrel, hsz⟩
theorem ZW_good {w : Cond} (h : w ∈ ZW) : (w.onTables && w.keeps) = true ∨ ∃ ty, w = .arrayClass ty := good_of_word (List.mem_filter.mp h).2
theorem zz_good {x y : Cond} (hy : y ∈ ZW) : GoodIn (x :: ZW) (y :: ZW) := fun w hw => by
  rcases List.mem_cons.mp hw with rfl | h
  · exact ⟨List.mem_cons_of_mem _ hy, ZW_good hy⟩
  · exact ⟨List.mem_cons_of_mem _ h, ZW_good h⟩
theorem zz_goodZ {y : Cond} (hy : y ∈ ZW) : GoodIn ZW (y :: ZW) := fun w hw => by
  rcases List.mem_cons.mp hw with rfl | h
  · exact ⟨hy, ZW_good hy⟩
  · exact ⟨h, ZW_good h⟩
end ZZC
end
section
/-! the two methods of a text, over the JDK's own code -/
section ZZJ
variable {l : Launch} {σ : Nat → Nat} {B : Nat} {dC : Nat → ClassId} {dI : Nat → Nat → Nat} {ca : Nat → ClassId} {sx : Int64 × (Nat → Int32)} {adV : Nat → Nat}
set_option maxHeartbeats 1000000 in
theorem zz_met {y : MethodName} {bytes : ByteArray} {maxL mc ms : Nat} {ret : Option FieldType} {as : List Value} {r : Option Value} {Z Z' : zzH} {rm : Room} (hpl : plainName y.cls = true) (hlen : (lg_sl as).length ≤ maxL)
    (body : ∀ (p : Program) (e : Env) (s : State) (m : MethodId) (below : List Frame) (meth : Method) (c : Code), p.tables.exec = Jvm.exec → c.code = bytes → c.maxLocals = maxL → meth.sig.returnType = ret → meth.locks = false → s.vm.findClass y.cls = some m.cls → meth.name = y.name → (∀ w ∈ ZW, w.before as.toArray s = true) → zzFr B σ dC dI ca sx adV s s.heap → zzRel B σ dC dI ca sx Z s.heap → s.heap.size = B + Z.1.length → ∀ lsA : Array Slot, lv_has lsA maxL (lv_args 0 as) →
      W p l e rm s m as.toArray below meth c s.heap [] 0 0 (MQ below (zzQ B σ dC dI ca sx r Z') as.toArray s mc ms (fun q : Nat => B ≤ q)) (F0 m 0 lsA [])) :
    Met l y (Jvm.Cond.code y bytes maxL ret :: ZW) rm (va_Pc as (zzPre B σ dC dI ca sx adV Z)) (zzQ B σ dC dI ca sx r Z') mc ms (fun q : Nat => B ≤ q) := by
  refine Met.ofW (cc := bytes) (maxL := maxL) (ret := ret) hpl rfl ?_
  intro p e s m args below meth c s₁ BB hml hv
  obtain ⟨rfl, hfr, hrel, hsz⟩ := hv
  have hx := BB.exec
  have hb := BB.bytes
  have hr := BB.returns
  have hts := atoms_spec (ws := Jvm.Cond.code y bytes maxL ret :: ZW) BB.pre
  have hown : s.vm.findClass y.cls = some m.cls := findClass_of_methodNamed BB.named
  have hlocks := BB.notSynchronized
  have hin := (name_of_methodNamed BB.named BB.method).1
  have hl := lv_entry as (n := maxL) hlen
  rw [lg_entry_eq]
  generalize (lg_sl as ++ List.replicate (maxL - (lg_sl as).length) Slot.unset).toArray = lsA at hl ⊢
  exact body p e s m below meth c hx hb hml hr hlocks hown hin (fun w hw => hts w (List.mem_cons_of_mem _ hw)) hfr hrel hsz lsA hl
def zzRj (k : Nat) : Room := { frames := k, cells := 0, slots := 0, locals := 40 * k }
def zzJw : List Cond := [.fieldLink RJ0 38 "java/lang/String" "COMPACT_STRINGS" "Z", .fieldLink RJ0 15 "java/lang/String" "coder" "B", .fieldLink RJ0 9 "java/lang/String" "value" "[B", .methodLink RJ0 335 yJ0_coder_7d493, .instanceMethod yJ0_coder_7d493, .selects RJ0 yJ0_coder_7d493 yJ0_coder_7d493, .initialized RJ0, .methodLink RJ0 492 yJ0_isLatin1_aae02, .instanceMethod yJ0_isLatin1_aae02, .selects RJ0 yJ0_isLatin1_aae02 yJ0_isLatin1_aae02, .methodLink RJ0 495 yJ1_charAt_3b067, .static yJ1_charAt_3b067, .initialized RJ1, .methodLink RJ1 9 yJ0_checkIndex_df160, .static yJ0_checkIndex_df160, .fieldLink RJ0 1053 "jdk/internal/util/Preconditions" "SIOOBE_FORMATTER" "Ljava/util/function/BiFunction;", .methodLink RJ0 1059 yJ3_checkIndex_8e157, .static yJ3_checkIndex_8e157, .initialized RJ3,
  .code yJ0_coder_7d493 cJ0_coder_7d493 1 (some .byte), .code yJ0_length_8abf5 cJ0_length_8abf5 1 (some .int), .code yJ0_isLatin1_aae02 cJ0_isLatin1_aae02 1 (some .boolean), .code yJ3_checkIndex_8e157 cJ3_checkIndex_8e157 3 (some .int), .code yJ0_checkIndex_df160 cJ0_checkIndex_df160 2 none, .code yJ1_charAt_3b067 cJ1_charAt_3b067 2 (some .char), .code yJ0_charAt_5068e cJ0_charAt_5068e 2 (some .char)]
set_option maxRecDepth 100000 in
theorem zzJwI : ∀ w ∈ zzJw, w ∈ lw_tbl ∧ goodWord w = true := by decide +kernel
theorem zzJW {w : Cond} (h : w ∈ zzJw) : w ∈ ZW := ZW_of (zzJwI w h).1 (zzJwI w h).2
theorem zzJg {ws : List Cond} (h : ∀ w ∈ ws, w ∈ zzJw ∨ w ∈ ZW) : GoodIn ZW ws := fun w hw => (h w hw).elim (fun h => ⟨zzJW h, ZW_good (zzJW h)⟩) (fun h => ⟨h, ZW_good h⟩)
theorem zzKi {w : Cond} (k : Nat) (h : zzJw[k]? = some w) : w ∈ ZW := zzJW (List.mem_of_getElem? h)
theorem zzJgc {pre : List Cond} {w : Cond} (h : ∀ x ∈ pre, x ∈ zzJw) (hw : w ∈ zzJw) : GoodIn ZW (pre ++ (w :: ZW)) := zzJg fun x hx => (List.mem_append.mp hx).elim (fun h1 => Or.inl (h x h1)) (fun h1 => (List.mem_cons.mp h1).elim (fun e => Or.inl (e ▸ hw)) Or.inr)
section DEC
theorem zzd_coder_0 : decode cJ0_coder_7d493 0 = .ok (.getstatic 38, 3) := by decide +kernel
theorem zzd_coder_3 : decode cJ0_coder_7d493 3 = .ok (.ifCond .eq 10, 3) := by decide +kernel
theorem zzd_coder_6 : decode cJ0_coder_7d493 6 = .ok (.aload_n 0, 1) := by decide +kernel
theorem zzd_coder_7 : decode cJ0_coder_7d493 7 = .ok (.getfield 15, 3) := by decide +kernel
theorem zzd_coder_10 : decode cJ0_coder_7d493 10 = .ok (.goto 4, 3) := by decide +kernel
theorem zzd_coder_14 : decode cJ0_coder_7d493 14 = .ok (.ireturn, 1) := by decide +kernel
theorem zzd_length_0 : decode cJ0_length_8abf5 0 = .ok (.aload_n 0, 1) := by decide +kernel
theorem zzd_length_1 : decode cJ0_length_8abf5 1 = .ok (.getfield 9, 3) := by decide +kernel
theorem zzd_length_4 : decode cJ0_length_8abf5 4 = .ok (.arraylength, 1) := by decide +kernel
theorem zzd_length_5 : decode cJ0_length_8abf5 5 = .ok (.aload_n 0, 1) := by decide +kernel
theorem zzd_length_6 : decode cJ0_length_8abf5 6 = .ok (.invokevirtual 335, 3) := by decide +kernel
theorem zzd_length_9 : decode cJ0_length_8abf5 9 = .ok (.ishr, 1) := by decide +kernel
theorem zzd_length_10 : decode cJ0_length_8abf5 10 = .ok (.ireturn, 1) := by decide +kernel
theorem zzd_isLatin1_0 : decode cJ0_isLatin1_aae02 0 = .ok (.getstatic 38, 3) := by decide +kernel
theorem zzd_isLatin1_3 : decode cJ0_isLatin1_aae02 3 = .ok (.ifCond .eq 14, 3) := by decide +kernel
theorem zzd_isLatin1_6 : decode cJ0_isLatin1_aae02 6 = .ok (.aload_n 0, 1) := by decide +kernel
theorem zzd_isLatin1_7 : decode cJ0_isLatin1_aae02 7 = .ok (.getfield 15, 3) := by decide +kernel
theorem zzd_isLatin1_10 : decode cJ0_isLatin1_aae02 10 = .ok (.ifCond .ne 7, 3) := by decide +kernel
theorem zzd_isLatin1_13 : decode cJ0_isLatin1_aae02 13 = .ok (.iconst 1, 1) := by decide +kernel
theorem zzd_isLatin1_14 : decode cJ0_isLatin1_aae02 14 = .ok (.goto 4, 3) := by decide +kernel
theorem zzd_isLatin1_18 : decode cJ0_isLatin1_aae02 18 = .ok (.ireturn, 1) := by decide +kernel
theorem zzd_pci_0 : decode cJ3_checkIndex_8e157 0 = .ok (.iload_n 0, 1) := by decide +kernel
theorem zzd_pci_1 : decode cJ3_checkIndex_8e157 1 = .ok (.ifCond .lt 8, 3) := by decide +kernel
theorem zzd_pci_4 : decode cJ3_checkIndex_8e157 4 = .ok (.iload_n 0, 1) := by decide +kernel
theorem zzd_pci_5 : decode cJ3_checkIndex_8e157 5 = .ok (.iload_n 1, 1) := by decide +kernel
theorem zzd_pci_6 : decode cJ3_checkIndex_8e157 6 = .ok (.if_icmp .lt 10, 3) := by decide +kernel
theorem zzd_pci_16 : decode cJ3_checkIndex_8e157 16 = .ok (.iload_n 0, 1) := by decide +kernel
theorem zzd_pci_17 : decode cJ3_checkIndex_8e157 17 = .ok (.ireturn, 1) := by decide +kernel
theorem zzd_sci_0 : decode cJ0_checkIndex_df160 0 = .ok (.iload_n 0, 1) := by decide +kernel
theorem zzd_sci_1 : decode cJ0_checkIndex_df160 1 = .ok (.iload_n 1, 1) := by decide +kernel
theorem zzd_sci_2 : decode cJ0_checkIndex_df160 2 = .ok (.getstatic 1053, 3) := by decide +kernel
theorem zzd_sci_5 : decode cJ0_checkIndex_df160 5 = .ok (.invokestatic 1059, 3) := by decide +kernel
theorem zzd_sci_8 : decode cJ0_checkIndex_df160 8 = .ok (.pop, 1) := by decide +kernel
theorem zzd_sci_9 : decode cJ0_checkIndex_df160 9 = .ok (.return_, 1) := by decide +kernel
theorem zzd_lch_0 : decode cJ1_charAt_3b067 0 = .ok (.iload_n 1, 1) := by decide +kernel
theorem zzd_lch_1 : decode cJ1_charAt_3b067 1 = .ok (.aload_n 0, 1) := by decide +kernel
theorem zzd_lch_2 : decode cJ1_charAt_3b067 2 = .ok (.arraylength, 1) := by decide +kernel
theorem zzd_lch_3 : decode cJ1_charAt_3b067 3 = .ok (.invokestatic 9, 3) := by decide +kernel
theorem zzd_lch_6 : decode cJ1_charAt_3b067 6 = .ok (.aload_n 0, 1) := by decide +kernel
theorem zzd_lch_7 : decode cJ1_charAt_3b067 7 = .ok (.iload_n 1, 1) := by decide +kernel
theorem zzd_lch_8 : decode cJ1_charAt_3b067 8 = .ok (.baload, 1) := by decide +kernel
theorem zzd_lch_9 : decode cJ1_charAt_3b067 9 = .ok (.sipush 255, 3) := by decide +kernel
theorem zzd_lch_12 : decode cJ1_charAt_3b067 12 = .ok (.iand, 1) := by decide +kernel
theorem zzd_lch_13 : decode cJ1_charAt_3b067 13 = .ok (.i2c, 1) := by decide +kernel
theorem zzd_lch_14 : decode cJ1_charAt_3b067 14 = .ok (.ireturn, 1) := by decide +kernel
theorem zzd_charAt_0 : decode cJ0_charAt_5068e 0 = .ok (.aload_n 0, 1) := by decide +kernel
theorem zzd_charAt_1 : decode cJ0_charAt_5068e 1 = .ok (.invokevirtual 492, 3) := by decide +kernel
theorem zzd_charAt_4 : decode cJ0_charAt_5068e 4 = .ok (.ifCond .eq 12, 3) := by decide +kernel
theorem zzd_charAt_7 : decode cJ0_charAt_5068e 7 = .ok (.aload_n 0, 1) := by decide +kernel
theorem zzd_charAt_8 : decode cJ0_charAt_5068e 8 = .ok (.getfield 9, 3) := by decide +kernel
theorem zzd_charAt_11 : decode cJ0_charAt_5068e 11 = .ok (.iload_n 1, 1) := by decide +kernel
theorem zzd_charAt_12 : decode cJ0_charAt_5068e 12 = .ok (.invokestatic 495, 3) := by decide +kernel
theorem zzd_charAt_15 : decode cJ0_charAt_5068e 15 = .ok (.ireturn, 1) := by decide +kernel
end DEC
set_option maxHeartbeats 1000000 in
theorem zzj_coder {i : Nat} (hi : i < 13) (Z : zzH) : Met l yJ0_coder_7d493 (Jvm.Cond.code yJ0_coder_7d493 cJ0_coder_7d493 1 (some .byte) :: ZW) (zzRj 1) (va_Pc [.ref (σ (1000 + i))] (zzPre B σ dC dI ca sx adV Z)) (zzQ B σ dC dI ca sx (some (.int 0)) Z) 0 0 (fun q : Nat => B ≤ q) := by
  refine zz_met (by decide) (Nat.le_refl 1) ?_
  intro p e s m below meth c hx hb hml hr hlocks hown hin hts hfr hrel hsz lsA hl
  obtain ⟨-, -, -, -, -, -, hE, hZ, -⟩ := hfr
  have hS : va_S (fun q : Nat => B ≤ q) s.heap s.heap [] := va_S.rf
  refine va_gets hx hb hZ hS hown (hts _ (zzKi 0 rfl)) (fun x h => h) zzd_coder_0 ?_
  refine lv_if_eq (tgt := 13) hx hb zzd_coder_3 (by decide) (fun q => absurd q (by decide)) (fun _ => ?_)
  refine lv_aload_n hx hb zzd_coder_6 rfl (lv_at hl 0 rfl) ?_
  refine vk_getf hx hb (hE.1 i hi).2.1 hS hown (hts _ (zzKi 1 rfl)) (fun x h => h) zzd_coder_7 ?_
  refine lv_goto (tgt := 14) hx hb zzd_coder_10 (by decide) ?_
  exact W.zret hx hb hr rfl (fun t ht _ => ⟨rfl, by rw [ht]; exact hrel, va_S.F hS ht⟩) (fun q h => by cases h) zzd_coder_14 hlocks
set_option maxHeartbeats 1000000 in
theorem zzj_length {i : Nat} (hi : i < 13) (Z : zzH) : Met l yJ0_length_8abf5 (Jvm.Cond.code yJ0_length_8abf5 cJ0_length_8abf5 1 (some .int) :: ZW) (zzRj 2) (va_Pc [.ref (σ (1000 + i))] (zzPre B σ dC dI ca sx adV Z)) (zzQ B σ dC dI ca sx (some (.int (Int32.ofNat (zzTx i).length))) Z) 0 0 (fun q : Nat => B ≤ q) := by
  refine zz_met (by decide) (Nat.le_refl 1) ?_
  intro p e s m below meth c hx hb hml hr hlocks hown hin hts hfr hrel hsz lsA hl
  obtain ⟨-, -, -, -, -, -, hE, hZ, -⟩ := id hfr
  have hS : va_S (fun q : Nat => B ≤ q) s.heap s.heap [] := va_S.rf
  refine lv_aload_n hx hb zzd_length_0 rfl (lv_at hl 0 rfl) ?_
  refine vk_getf hx hb (hE.1 i hi).2.2.1 hS hown (hts _ (zzKi 2 rfl)) (fun x h => h) zzd_length_1 ?_
  refine va_tlen hx hb (hE.1 i hi).2.2.2 hS rfl zzd_length_4 ?_
  refine lv_aload_n hx hb zzd_length_5 rfl (lv_at hl 0 rfl) ?_
  refine zz_call (r := some (.int 0)) (Z' := Z) (va_runV (As := []) (rest := [_]) ⟨hx, hb, hml, hown, hts⟩ (zzj_coder hi Z) (cwV 0 hts (zzJgc (pre := [.methodLink RJ0 335 yJ0_coder_7d493, .instanceMethod yJ0_coder_7d493, .selects RJ0 yJ0_coder_7d493 yJ0_coder_7d493, .initialized RJ0]) (by decide +kernel) (List.mem_of_getElem? (i := 19) rfl)) rfl rfl rfl (by decide +kernel) ⟨Nat.le_of_ble_eq_true rfl, Nat.le_of_ble_eq_true rfl⟩) ⟨zzPre_blind, vk_recv hE hi hS, fun U hU hW => zz_pre (as := [.ref (σ (1000 + i))]) hfr hrel hsz hS hU hW⟩ rfl rfl hl.1 rfl (lv_room (Nat.le_of_ble_eq_true rfl)) zzd_length_6 ⟨Nat.le_refl 0, Nat.le_refl 0⟩) hS (fun H1 locs1 hrel1 hS1 => ?_)
  refine lv_ishr hx hb zzd_length_9 ?_
  have hv : (Int32.ofNat ((zzKc.map List.length).getD i 0) >>> ((0 : Int32) &&& 31)) = Int32.ofNat (zzTx i).length := by
    unfold zzTx
    rw [List.getD_eq_getElem?_getD, List.getElem?_map, List.getD_eq_getElem?_getD]
    cases zzKc[i]? <;> simp
  rw [hv]
  exact W.iret hx hb hr (fun t ht _ => ⟨rfl, by rw [ht]; exact hrel1, va_S.F hS1 ht⟩) (fun q h => hS1.2.2 q h) zzd_length_10 hlocks
set_option maxHeartbeats 1000000 in
theorem zzj_isLatin1 {i : Nat} (hi : i < 13) (Z : zzH) : Met l yJ0_isLatin1_aae02 (Jvm.Cond.code yJ0_isLatin1_aae02 cJ0_isLatin1_aae02 1 (some .boolean) :: ZW) (zzRj 1) (va_Pc [.ref (σ (1000 + i))] (zzPre B σ dC dI ca sx adV Z)) (zzQ B σ dC dI ca sx (some (.int 1)) Z) 0 0 (fun q : Nat => B ≤ q) := by
  refine zz_met (by decide) (Nat.le_refl 1) ?_
  intro p e s m below meth c hx hb hml hr hlocks hown hin hts hfr hrel hsz lsA hl
  obtain ⟨-, -, -, -, -, -, hE, hZ, -⟩ := hfr
  have hS : va_S (fun q : Nat => B ≤ q) s.heap s.heap [] := va_S.rf
  refine va_gets hx hb hZ hS hown (hts _ (zzKi 0 rfl)) (fun x h => h) zzd_isLatin1_0 ?_
  refine lv_if_eq (tgt := 17) hx hb zzd_isLatin1_3 (by decide) (fun q => absurd q (by decide)) (fun _ => ?_)
  refine lv_aload_n hx hb zzd_isLatin1_6 rfl (lv_at hl 0 rfl) ?_
  refine vk_getf hx hb (hE.1 i hi).2.1 hS hown (hts _ (zzKi 1 rfl)) (fun x h => h) zzd_isLatin1_7 ?_
  refine lv_if_ne (tgt := 17) hx hb zzd_isLatin1_10 (by decide) (fun q => absurd rfl q) (fun _ => ?_)
  refine lv_iconst (v := 1) hx hb zzd_isLatin1_13 (by decide) ?_
  refine lv_goto (tgt := 18) hx hb zzd_isLatin1_14 (by decide) ?_
  exact W.zret hx hb hr rfl (fun t ht _ => ⟨rfl, by rw [ht]; exact hrel, va_S.F hS ht⟩) (fun q h => by cases h) zzd_isLatin1_18 hlocks
set_option maxHeartbeats 1000000 in
theorem zzj_pci {k n : Int32} {f : Value} (h0 : ¬ k < 0) (h1 : k < n) (hf : f.category = 1) (Z : zzH) : Met l yJ3_checkIndex_8e157 (Jvm.Cond.code yJ3_checkIndex_8e157 cJ3_checkIndex_8e157 3 (some .int) :: ZW) (zzRj 1) (va_Pc [.int k, .int n, f] (zzPre B σ dC dI ca sx adV Z)) (zzQ B σ dC dI ca sx (some (.int k)) Z) 0 0 (fun q : Nat => B ≤ q) := by
  refine zz_met (by decide) (by simp only [lg_sl, List.flatMap_cons, List.flatMap_nil, hf]; exact Nat.le_refl 3) ?_
  intro p e s m below meth c hx hb hml hr hlocks hown hin hts hfr hrel hsz lsA hl
  have hl : lv_has lsA 3 [(0, .int k), (1, .int n), (2, f)] := hl
  have hS : va_S (fun q : Nat => B ≤ q) s.heap s.heap [] := va_S.rf
  refine lv_iload_n hx hb zzd_pci_0 rfl (lv_at hl 0 rfl) ?_
  refine lv_if_lt (tgt := 9) hx hb zzd_pci_1 (by decide) (fun q => absurd q h0) (fun _ => ?_)
  refine lv_iload_n hx hb zzd_pci_4 rfl (lv_at hl 0 rfl) ?_
  refine lv_iload_n hx hb zzd_pci_5 rfl (lv_at hl 1 rfl) ?_
  refine lv_icmp_lt (tgt := 16) hx hb zzd_pci_6 (by decide) (fun _ => ?_) (fun q => absurd h1 q)
  refine lv_iload_n hx hb zzd_pci_16 rfl (lv_at hl 0 rfl) ?_
  exact W.iret hx hb hr (fun t ht _ => ⟨rfl, by rw [ht]; exact hrel, va_S.F hS ht⟩) (fun q h => by cases h) zzd_pci_17 hlocks
set_option maxHeartbeats 1000000 in
theorem zzj_sci {k n : Int32} (h0 : ¬ k < 0) (h1 : k < n) (Z : zzH) : Met l yJ0_checkIndex_df160 (Jvm.Cond.code yJ0_checkIndex_df160 cJ0_checkIndex_df160 2 none :: ZW) (zzRj 2) (va_Pc [.int k, .int n] (zzPre B σ dC dI ca sx adV Z)) (zzQ B σ dC dI ca sx none Z) 0 0 (fun q : Nat => B ≤ q) := by
  refine zz_met (by decide) (Nat.le_refl 2) ?_
  intro p e s m below meth c hx hb hml hr hlocks hown hin hts hfr hrel hsz lsA hl
  have hl : lv_has lsA 2 [(0, .int k), (1, .int n)] := hl
  have hS : va_S (fun q : Nat => B ≤ q) s.heap s.heap [] := va_S.rf
  have hF : va_Zq "jdk/internal/util/Preconditions" "SIOOBE_FORMATTER" "Ljava/util/function/BiFunction;" (fun q : Nat => B ≤ q) s s.heap := hfr.2.2.2.2.2.2.2.2
  have go : ∀ f : Value, f.category = 1 → va_Z "jdk/internal/util/Preconditions" "SIOOBE_FORMATTER" "Ljava/util/function/BiFunction;" f (fun q : Nat => B ≤ q) s s.heap → W p l e (zzRj 2) s m [Value.int k, Value.int n].toArray below meth c s.heap [] 0 0 (MQ below (zzQ B σ dC dI ca sx none Z) [Value.int k, Value.int n].toArray s 0 0 (fun q : Nat => B ≤ q)) (F0 m 0 lsA []) := by
    intro f hfc hZf
    refine lv_iload_n hx hb zzd_sci_0 rfl (lv_at hl 0 rfl) ?_
    refine lv_iload_n hx hb zzd_sci_1 rfl (lv_at hl 1 rfl) ?_
    refine va_gets hx hb hZf hS hown (hts _ (zzKi 15 rfl)) (fun x h => h) zzd_sci_2 ?_
    refine zz_call (r := some (.int k)) (Z' := Z) (va_runS (As := [.int k, .int n, f]) (rest := []) ⟨hx, hb, hml, hown, hts⟩ (zzj_pci h0 h1 hfc Z) ⟨callB_of 3 hts (zzJgc (pre := []) (by decide +kernel) (List.mem_of_getElem? (i := 22) rfl)) rfl rfl rfl (hts _ (zzKi 18 rfl)) (hts _ (zzKi 16 rfl)) (by decide +kernel) ⟨Nat.le_of_ble_eq_true rfl, Nat.le_of_ble_eq_true rfl⟩, hts _ (zzKi 17 rfl)⟩ ⟨zzPre_blind, fun U hU hW => zz_pre (as := [.int k, .int n, f]) hfr hrel hsz hS hU hW⟩ rfl rfl hl.1 rfl (lv_room (Nat.le_of_ble_eq_true rfl)) zzd_sci_5 ⟨Nat.le_refl 0, Nat.le_refl 0⟩) hS (fun H1 locs1 hrel1 hS1 => ?_)
    refine lv_pop hx hb zzd_sci_8 rfl ?_
    exact W.vret hx hb hr (fun t ht _ => ⟨rfl, by rw [ht]; exact hrel1, va_S.F hS1 ht⟩) (fun q h => hS1.2.2 q h) zzd_sci_9 hlocks
  rcases hF with h | ⟨t, h⟩
  · exact go _ rfl h
  · exact go _ rfl h
theorem zz_lt_of_in {k : Int32} {n : Nat} (h : vp_in k n) (hn : n < 2 ^ 31) : ¬ k < 0 ∧ k < Int32.ofNat n ∧ k.toNatClampNeg < n := by
  unfold vp_in at h
  have h1 : ¬ k < 0 := fun q => h (Or.inl q)
  have h2 : k.toNatClampNeg < n := Nat.lt_of_not_le fun q => h (Or.inr q)
  refine ⟨h1, ?_, h2⟩
  rw [Int32.lt_iff_toInt_lt]
  have e1 : (Int32.ofNat n).toInt = n := nI_toInt hn
  have hz : (0 : Int) ≤ k.toInt := by
    have := Int32.not_lt.mp h1
    simpa using Int32.le_iff_toInt_le.mp this
  have e2 : k.toInt = (k.toNatClampNeg : Int) := by
    show k.toInt = ((k.toInt.toNat : Nat) : Int)
    omega
  rw [e1, e2]
  omega
theorem zzTx_ok : ∀ i, i < 13 → (zzTx i).length < 1000 ∧ ∀ k, k < (zzTx i).length → (((Int32.ofNat ((zzTx i).getD k 0)) &&& (Int16.ofInt 255).toInt32) = Int32.ofNat ((zzTx i).getD k 0) ∧ ((Int32.ofNat ((zzTx i).getD k 0)).toUInt32 % 65536).toInt32 = Int32.ofNat ((zzTx i).getD k 0) ∧ narrow .char (.int (Int32.ofNat ((zzTx i).getD k 0))) = .int (Int32.ofNat ((zzTx i).getD k 0))) := by decide +kernel
theorem zzKc_get {i : Nat} : (zzKc.map List.length).getD i 0 = (zzTx i).length := by
  unfold zzTx
  rw [List.getD_eq_getElem?_getD, List.getElem?_map, List.getD_eq_getElem?_getD]
  cases zzKc[i]? <;> rfl
theorem zzKc_ch {i k : Nat} (h : k < (zzTx i).length) : ((zzKc.map fun l => l.map fun n => Int32.ofNat n).getD i []).getD k 0 = Int32.ofNat ((zzTx i).getD k 0) := by
  have e : (zzKc.map fun l => l.map fun n => Int32.ofNat n).getD i [] = (zzTx i).map fun n => Int32.ofNat n := by
    unfold zzTx
    rw [List.getD_eq_getElem?_getD, List.getElem?_map, List.getD_eq_getElem?_getD]
    cases zzKc[i]? <;> rfl
  rw [e, List.getD_eq_getElem?_getD, List.getElem?_map, List.getD_eq_getElem?_getD, List.getElem?_eq_getElem h]
  rfl
set_option maxHeartbeats 1000000 in
theorem zzj_lch {i : Nat} (hi : i < 13) {k : Int32} (hk : zzIx k (zzTx i).length) (Z : zzH) : Met l yJ1_charAt_3b067 (Jvm.Cond.code yJ1_charAt_3b067 cJ1_charAt_3b067 2 (some .char) :: ZW) (zzRj 3) (va_Pc [.ref (adV i), .int k] (zzPre B σ dC dI ca sx adV Z)) (zzQ B σ dC dI ca sx (some (.int (Int32.ofNat ((zzTx i).getD k.toNatClampNeg 0)))) Z) 0 0 (fun q : Nat => B ≤ q) := by
  refine zz_met (by decide) (Nat.le_refl 2) ?_
  intro p e s m below meth c hx hb hml hr hlocks hown hin hts hfr hrel hsz lsA hl
  have hl : lv_has lsA 2 [(0, .ref (adV i)), (1, .int k)] := hl
  obtain ⟨-, -, -, -, -, -, hE, hZ, -⟩ := id hfr
  have hS : va_S (fun q : Nat => B ≤ q) s.heap s.heap [] := va_S.rf
  obtain ⟨k0, k1, k2⟩ := zz_lt_of_in (n := (zzTx i).length) hk (by have := (zzTx_ok i hi).1; omega)
  obtain ⟨t1, t2, t3⟩ := (zzTx_ok i hi).2 _ k2
  refine lv_iload_n hx hb zzd_lch_0 rfl (lv_at hl 1 rfl) ?_
  refine lv_aload_n hx hb zzd_lch_1 rfl (lv_at hl 0 rfl) ?_
  refine va_tlen hx hb (hE.1 i hi).2.2.2 hS (by rw [zzKc_get]) zzd_lch_2 ?_
  refine zz_call (r := none) (Z' := Z) (va_runS (As := [.int k, .int (Int32.ofNat (zzTx i).length)]) (rest := []) ⟨hx, hb, hml, hown, hts⟩ (zzj_sci k0 k1 Z) ⟨callB_of 2 hts (zzJgc (pre := []) (by decide +kernel) (List.mem_of_getElem? (i := 23) rfl)) rfl rfl rfl (hts _ (zzKi 6 rfl)) (hts _ (zzKi 13 rfl)) (by decide +kernel) ⟨Nat.le_of_ble_eq_true rfl, Nat.le_of_ble_eq_true rfl⟩, hts _ (zzKi 14 rfl)⟩ ⟨zzPre_blind, fun U hU hW => zz_pre (as := [.int k, .int (Int32.ofNat (zzTx i).length)]) hfr hrel hsz hS hU hW⟩ rfl rfl hl.1 rfl (lv_room (Nat.le_of_ble_eq_true rfl)) zzd_lch_3 ⟨Nat.le_refl 0, Nat.le_refl 0⟩) hS (fun H1 locs1 hrel1 hS1 => ?_)
  refine lv_aload_n hx hb zzd_lch_6 rfl (lv_at hl 0 rfl) ?_
  refine lv_iload_n hx hb zzd_lch_7 rfl (lv_at hl 1 rfl) ?_
  refine va_tb hx hb (hE.1 i hi).2.2.2 hS1 (by rw [zzKc_get]; exact hk) (by rw [zzKc_ch k2]) zzd_lch_8 ?_
  refine lv_sipush hx hb zzd_lch_9 rfl ?_
  refine lv_iand hx hb zzd_lch_12 ?_
  rw [t1]
  refine lv_i2c hx hb zzd_lch_13 t2 ?_
  exact W.zret hx hb hr t3 (fun t ht _ => ⟨rfl, by rw [ht]; exact hrel1, va_S.F hS1 ht⟩) (fun q h => hS1.2.2 q h) zzd_lch_14 hlocks
set_option maxHeartbeats 1000000 in
theorem zzj_charAt {i : Nat} (hi : i < 13) {k : Int32} (hk : zzIx k (zzTx i).length) (Z : zzH) : Met l yJ0_charAt_5068e (Jvm.Cond.code yJ0_charAt_5068e cJ0_charAt_5068e 2 (some .char) :: ZW) (zzRj 4) (va_Pc [.ref (σ (1000 + i)), .int k] (zzPre B σ dC dI ca sx adV Z)) (zzQ B σ dC dI ca sx (some (.int (Int32.ofNat ((zzTx i).getD k.toNatClampNeg 0)))) Z) 0 0 (fun q : Nat => B ≤ q) := by
  refine zz_met (by decide) (Nat.le_refl 2) ?_
  intro p e s m below meth c hx hb hml hr hlocks hown hin hts hfr hrel hsz lsA hl
  have hl : lv_has lsA 2 [(0, .ref (σ (1000 + i))), (1, .int k)] := hl
  obtain ⟨-, -, -, -, -, -, hE, hZ, -⟩ := id hfr
  have hS : va_S (fun q : Nat => B ≤ q) s.heap s.heap [] := va_S.rf
  obtain ⟨k0, k1, k2⟩ := zz_lt_of_in (n := (zzTx i).length) hk (by have := (zzTx_ok i hi).1; omega)
  obtain ⟨t1, t2, t3⟩ := (zzTx_ok i hi).2 _ k2
  refine lv_aload_n hx hb zzd_charAt_0 rfl (lv_at hl 0 rfl) ?_
  refine zz_call (r := some (.int 1)) (Z' := Z) (va_runV (As := []) (rest := []) ⟨hx, hb, hml, hown, hts⟩ (zzj_isLatin1 hi Z) (cwV 0 hts (zzJgc (pre := [.methodLink RJ0 492 yJ0_isLatin1_aae02, .instanceMethod yJ0_isLatin1_aae02, .selects RJ0 yJ0_isLatin1_aae02 yJ0_isLatin1_aae02, .initialized RJ0]) (by decide +kernel) (List.mem_of_getElem? (i := 21) rfl)) rfl rfl rfl (by decide +kernel) ⟨Nat.le_of_ble_eq_true rfl, Nat.le_of_ble_eq_true rfl⟩) ⟨zzPre_blind, vk_recv hE hi hS, fun U hU hW => zz_pre (as := [.ref (σ (1000 + i))]) hfr hrel hsz hS hU hW⟩ rfl rfl hl.1 rfl (lv_room (Nat.le_of_ble_eq_true rfl)) zzd_charAt_1 ⟨Nat.le_refl 0, Nat.le_refl 0⟩) hS (fun H1 locs1 hrel1 hS1 => ?_)
  refine lv_if_eq (tgt := 16) hx hb zzd_charAt_4 (by decide) (fun q => absurd q (by decide)) (fun _ => ?_)
  refine lv_aload_n hx hb zzd_charAt_7 rfl (lv_at hl 0 rfl) ?_
  refine vk_getf hx hb (hE.1 i hi).2.2.1 hS1 hown (hts _ (zzKi 2 rfl)) (fun x h => h) zzd_charAt_8 ?_
  refine lv_iload_n hx hb zzd_charAt_11 rfl (lv_at hl 1 rfl) ?_
  intro T hT X
  have hsz1 : H1.size = B + Z.1.length := by
    have h1 := X.heapSize
    rw [hT] at h1
    have h2 := hS1.1
    omega
  refine (?_ : W p l e (zzRj 4) s m [Value.ref (σ (1000 + i)), Value.int k].toArray below meth c H1 locs1 (0 + 0) (0 + 0) _ (F0 m 12 lsA [.int k, .ref (adV i)])) T hT X
  refine zz_call (r := some (.int (Int32.ofNat ((zzTx i).getD k.toNatClampNeg 0)))) (Z' := Z) (va_runS (As := [.ref (adV i), .int k]) (rest := []) ⟨hx, hb, hml, hown, hts⟩ (zzj_lch hi hk Z) ⟨callB_of 2 hts (zzJgc (pre := []) (by decide +kernel) (List.mem_of_getElem? (i := 24) rfl)) rfl rfl rfl (hts _ (zzKi 12 rfl)) (hts _ (zzKi 10 rfl)) (by decide +kernel) ⟨Nat.le_of_ble_eq_true rfl, Nat.le_of_ble_eq_true rfl⟩, hts _ (zzKi 11 rfl)⟩ ⟨zzPre_blind, fun U hU hW => zz_pre (as := [.ref (adV i), .int k]) hfr hrel1 hsz1 hS1 hU hW⟩ rfl rfl hl.1 rfl (lv_room (Nat.le_of_ble_eq_true rfl)) zzd_charAt_12 ⟨Nat.le_refl 0, Nat.le_refl 0⟩) hS1 (fun H2 locs2 hrel2 hS2 => ?_)
  exact W.zret hx hb hr t3 (fun t ht _ => ⟨rfl, by rw [ht]; exact hrel2, va_S.F hS2 ht⟩) (fun q h => hS2.2.2 q h) zzd_charAt_15 hlocks
end ZZJ
end
section
/-! a method's body on the machine is its run -/
theorem zzCell_arr {σ : Nat → Nat} {ca : Nat → ClassId} {Z : zzH} {a : Nat} {q : Nat × Nat} (h : 8 ≤ q.1) : ∃ (cA : ClassId) (x : vp_A) (ty : FieldType) (t0 : Nat), zzCell σ ca Z a q = .inl (cA, x) ∧ (zzTys ca)[t0]? = some (cA, ty) ∧ x.1 = q.2 := by
  unfold zzCell
  rw [if_neg (by omega)]
  by_cases h10 : q.1 = 10
  · rw [if_pos h10]; exact ⟨_, _, _, 2, rfl, rfl, rfl⟩
  · rw [if_neg h10]
    by_cases h9 : q.1 = 9
    · rw [if_pos h9]; exact ⟨_, _, _, 1, rfl, rfl, rfl⟩
    · rw [if_neg h9]; exact ⟨_, _, _, 0, rfl, rfl, rfl⟩
section ZZB
variable {p : Program} {l : Launch} {e : Env} {R : Room} {s : State} {m : MethodId} {args : Array Value} {below : List Frame} {meth : Method} {c : Code} {H : Heap} {locs : List Loc} {cells slots : Nat} {Q : State → Prop}
variable {cc : ByteArray} {pc nL : Nat} {lsA : Array Slot} {σ : Nat → Nat} {ls : List Value} {own B : Nat} {dC : Nat → ClassId} {dI : Nat → Nat → Nat} {ca : Nat → ClassId} {sx : Int64 × (Nat → Int32)} {adV : Nat → Nat}
theorem zzCat_map' (σ : Nat → Nat) (st : List Value) (h : zzCat st ≤ 8) : ((st.map (zzV σ)).map fun v => v.category).sum ≤ 8 := by rw [zzCat_map]; exact h
theorem zzArI : Jvm.Cond.arrayClass .int ∈ ZW ∧ Jvm.Cond.arrayClass .boolean ∈ ZW := ⟨ZW_of (by decide +kernel) rfl, ZW_of (by decide +kernel) rfl⟩
set_option maxHeartbeats 2000000 in
theorem zzs_mem {il : Instr × Nat} {st : List Value} {Z : zzH} {r : zzS} {ini : Bool} {L0 S0 : Nat} (hx : p.tables.exec = Jvm.exec) (hb : c.code = cc) (hown : s.vm.findClass (zzR own) = some m.cls) (hts : ∀ w ∈ ZW, w.before args s = true)
    (hfr : zzFr B σ dC dI ca sx adV s s.heap) (hσ : ∀ a, a < 1000 → σ a = B + a) (hini : ini = true → meth.name = "<init>") (hrel : zzRel B σ dC dI ca sx Z H) (hS : va_S (fun q : Nat => B ≤ q) s.heap H locs) (h0 : s.heap.size = B + L0) (hc : cells + L0 = Z.1.length) (hsl : slots + S0 = zzSl Z)
    (hd : decode cc pc = .ok il) (h : zzMem own ini pc il ls st Z = some r) (hcap : r.2.2.2.1.length ≤ R.cells + L0) (hscap : zzSl r.2.2.2 ≤ R.slots + S0)
    (kk : ∀ (H' : Heap) (locs' : List Loc) (cells' slots' : Nat), r.2.1 = ls → zzRel B σ dC dI ca sx r.2.2.2 H' → va_S (fun q : Nat => B ≤ q) s.heap H' locs' → cells' + L0 = r.2.2.2.1.length → slots' + S0 = zzSl r.2.2.2 →
      W p l e R s m args below meth c H' locs' cells' slots' Q (F0 m r.1 lsA (r.2.2.1.map (zzV σ)))) : W p l e R s m args below meth c H locs cells slots Q (F0 m pc lsA (st.map (zzV σ))) := by
  obtain ⟨hK, hao, -, hB, ⟨hX, hXB⟩, -⟩ := hfr
  have hXl : σ 2000 < s.heap.size := Nat.lt_of_lt_of_le hXB hB
  have hXn : ¬ (fun q : Nat => B ≤ q) (σ 2000) := Nat.not_le.mpr hXB
  have hP := hrel.2.1
  have hD := zzWs_D (ca := ca) hσ hrel.1
  unfold zzMem at h
  split at h
  · split at h
    · split at h
      · next c0 k q hf hq =>
        split at h
        · next hc0 => cases h; exact zzm_get hx hb hd hown hts hK hP hf hq hc0 (by have := kk H locs cells slots rfl hrel hS hc hsl; exact this)
        · cases h
      · cases h
    · cases h
  · split at h
    · split at h
      · next c0 k q hf hq =>
        split at h
        · next hc0 =>
          obtain ⟨Z', hput, rfl⟩ := Option.map_eq_some_iff.mp h
          exact zzm_put hx hb hd hown hts hK hσ hrel hS hini hf hq hc0.1 hc0.2 hput (fun H' locs' e1 hr hS' => kk H' locs' cells slots rfl hr hS' (by rw [hc]; exact (congrArg List.length e1).symm) (by rw [hsl]; unfold zzSl; rw [e1]))
        · cases h
      · cases h
    · cases h
  · split at h
    · split at h
      · next ha =>
        subst ha
        split at h
        · next hin =>
          cases h
          rw [hrel.2.2.2] at hin
          refine va_sld hx hb hX hXl hXn hS hin hd ?_
          rw [← hrel.2.2.1]
          exact kk H locs cells slots rfl hrel hS hc hsl
        · cases h
      · split at h
        · next q hq =>
          split at h
          · next hc0 => cases h; exact va_iald hx hb hK hP _ 0 (by rw [zzWs_at hq, zzCell_8 hc0.1]) rfl hc0.2 hd (kk H locs cells slots rfl hrel hS hc hsl)
          · cases h
        · cases h
    · cases h
  · split at h
    · split at h
      · next q hq =>
        split at h
        · next hc0 =>
          cases h
          exact va_iast hx hb hK hP hD hS _ 0 (by rw [zzWs_at hq, zzCell_8 hc0.1]) rfl hc0.2 hd (fun H1 locs1 hP1 _ hS1 => by
            refine kk H1 locs1 cells slots rfl ?_ hS1 hc hsl
            refine zzm_row hrel hq ?_ ?_ ?_ hP1
            · rfl
            · rw [zzCell_8 hc0.1]; dsimp only; rw [zzUp_upd]
            · exact fun x hxa => ⟨rfl, rfl, zzUp_ne hxa⟩)
        · cases h
      · cases h
    · cases h
  · split at h
    · split at h
      · next q hq =>
        split at h
        · next hc0 => cases h; exact va_zald hx hb hK hP _ 1 (by rw [zzWs_at hq, zzCell_9 hc0.1]) rfl hc0.2 hd (kk H locs cells slots rfl hrel hS hc hsl)
        · cases h
      · cases h
    · cases h
  · split at h
    · split at h
      · next q hq =>
        split at h
        · next hc0 =>
          cases h
          exact va_zast hx hb hK hP hD hS _ 1 (by rw [zzWs_at hq, zzCell_9 hc0.1]) rfl hc0.2.1 hd (fun H1 locs1 hP1 _ hS1 => by
            refine kk H1 locs1 cells slots rfl ?_ hS1 hc hsl
            refine zzm_row hrel hq ?_ ?_ ?_ hP1
            · rfl
            · rw [zzCell_9 hc0.1]; dsimp only; rw [zzUp_upd, zz_nar01 hc0.2.2]
            · exact fun x hxa => ⟨rfl, rfl, zzUp_ne hxa⟩)
        · cases h
      · cases h
    · cases h
  · split at h
    · split at h
      · next q hq =>
        split at h
        · next hc0 =>
          cases h
          refine va_aldq hx hb hK hP _ 2 (by rw [zzWs_at hq, zzCell_10 hc0.1]) rfl hc0.2 hd ?_
          rw [← zzV_rf]
          exact kk H locs cells slots rfl hrel hS hc hsl
        · cases h
      · cases h
    · cases h
  · split at h
    · split at h
      · next q w hq hw =>
        split at h
        · next hc0 =>
          cases h
          have hw4 : w.1 < 8 := by omega
          exact va_astq hx hb hK hP hD hS _ 2 _ 4 (r := (zzR 4, zzTf 4, zzN 4)) (by rw [zzWs_at hq, zzCell_10 hc0.1]) rfl (by rw [zzWs_at hw, zzCell_o hw4, hc0.2.1]) (zzCl_ok 4 (by omega)) hc0.2.2 hd (fun H1 locs1 hP1 _ hS1 => by
            refine kk H1 locs1 cells slots rfl ?_ hS1 hc hsl
            refine zzm_row hrel hq ?_ ?_ ?_ hP1
            · rfl
            · rw [zzCell_10 hc0.1]
              dsimp only
              congr 7
              funext j
              rw [zzUp_eq]
              unfold va_up
              split <;> rfl
            · exact fun x hxa => ⟨zzUp_ne hxa, rfl, rfl⟩)
        · cases h
      · cases h
    · cases h
  · split at h
    · split at h
      · next ha =>
        subst ha
        cases h
        refine va_slen hx hb hX hXl hXn hS hd ?_
        rw [← hrel.2.2.2]
        exact kk H locs cells slots rfl hrel hS hc hsl
      · split at h
        · next q hq =>
          split at h
          · next hc0 =>
            cases h
            obtain ⟨cA, x, ty, t0, g1, g2, g3⟩ := zzCell_arr (σ := σ) (ca := ca) (Z := Z) hc0
            exact va_alen hx hb hK hP _ t0 (by rw [zzWs_at hq, g1]) g2 (by rw [g3]) hd (kk H locs cells slots rfl hrel hS hc hsl)
          · cases h
        · cases h
    · cases h
  · split at h
    · next c0 hcl =>
      split at h
      · next hlt =>
        cases h
        exact zzm_new hx hb hd hown hts hK hσ hrel hS h0 hc hsl hcl hlt hcap hscap (fun H' hr hS' => kk H' locs _ _ rfl hr hS' (by simp [zzNew]; omega) (by rw [zzSl_new]; omega))
      · cases h
    · cases h
  · split at h
    · split at h
      · next hlt =>
        cases h
        exact zzm_newa hx hb hd hK (Or.inl ⟨rfl, rfl⟩) (hts _ zzArI.1) hσ hrel hS h0 hc hsl hlt.1 hlt.2.1 hlt.2.2 hcap hscap (fun H' hr hS' => kk H' locs _ _ rfl hr hS' (by simp [zzNew]; omega) (by rw [zzSl_new]; omega))
      · cases h
    · cases h
  · split at h
    · split at h
      · next hlt =>
        cases h
        exact zzm_newa hx hb hd hK (Or.inr ⟨rfl, rfl⟩) (hts _ zzArI.2) hσ hrel hS h0 hc hsl hlt.1 hlt.2.1 hlt.2.2 hcap hscap (fun H' hr hS' => kk H' locs _ _ rfl hr hS' (by simp [zzNew]; omega) (by rw [zzSl_new]; omega))
      · cases h
    · cases h
  · split at h
    · split at h
      · next hlt =>
        cases h
        exact zzm_newq hx hb hd hown hts hK hao hσ hrel hS h0 hc hsl hlt.2.2.2 hlt.1 hlt.2.1 hlt.2.2.1 hcap hscap (fun H' hr hS' => kk H' locs _ _ rfl hr hS' (by simp [zzNew]; omega) (by rw [zzSl_new]; omega))
      · cases h
    · cases h
  · cases h
end ZZB
end
section
/-! a run of the function is a run of the machine -/
theorem zzMem_le {own pc : Nat} {ini : Bool} {il : Instr × Nat} {ls st : List Value} {Z : zzH} {r : zzS} (h : zzMem own ini pc il ls st Z = some r) : Z.1.length ≤ r.2.2.2.1.length ∧ zzSl Z ≤ zzSl r.2.2.2 ∧ r.2.1 = ls := by
  have hnew : ∀ (c n : Nat), Z.1.length ≤ (zzNew Z c n).1.length ∧ zzSl Z ≤ zzSl (zzNew Z c n) := fun c n => ⟨by simp [zzNew], by rw [zzSl_new]; omega⟩
  have hput : ∀ {c a k : Nat} {v : Value} {Z' : zzH}, zzPut Z c a k v = some Z' → Z'.1 = Z.1 := by
    intro c a k v Z' h
    unfold zzPut at h
    split at h
    · cases h; rfl
    · split at h
      · cases h; rfl
      · cases h
    · cases h; rfl
    · split at h
      · cases h; rfl
      · cases h
    · cases h; rfl
    · cases h
  unfold zzMem at h
  repeat' split at h
  all_goals first | (cases h; done) | (cases h; exact ⟨Nat.le_refl _, Nat.le_refl _, rfl⟩) | (cases h; exact ⟨(hnew _ _).1, (hnew _ _).2, rfl⟩) | skip
  all_goals
    obtain ⟨Z', hp, rfl⟩ := Option.map_eq_some_iff.mp h
    have e := hput hp
    refine ⟨?_, ?_, rfl⟩
    · dsimp only; rw [e]; exact Nat.le_refl _
    · unfold zzSl; dsimp only; rw [e]; exact Nat.le_refl _
theorem zzPrim_le {own pc : Nat} {il : Instr × Nat} {ls st : List Value} {Z : zzH} {r : zzS} (h : zzPrim own pc il ls st Z = some r) : r.2.2.2.1 = Z.1 ∧ r.2.1 = ls := by
  unfold zzPrim at h
  repeat' split at h
  all_goals first | (cases h; done) | (cases h; exact ⟨rfl, rfl⟩)
theorem zzFlow_le {pc : Nat} {il : Instr × Nat} {ls st : List Value} {Z : zzH} {r : zzS} (h : zzFlow pc il ls st Z = some r) : r.2.2.2 = Z := by
  unfold zzFlow at h
  repeat' split at h
  all_goals first | (cases h; done) | (cases h; rfl) | (obtain ⟨_, _, rfl⟩ := Option.map_eq_some_iff.mp h; rfl)
theorem zzAr_le {pc : Nat} {il : Instr × Nat} {ls st : List Value} {Z : zzH} {r : zzS} (h : zzAr pc il ls st Z = some r) : r.2.1 = ls ∧ r.2.2.2 = Z := by
  unfold zzAr at h
  repeat' split at h
  all_goals first | (cases h; done) | (cases h; exact ⟨rfl, rfl⟩)
/-- the cases of one instruction -/
theorem zzStep_cases {own pc : Nat} {ini : Bool} {il : Instr × Nat} {ls st : List Value} {Z : zzH} {r : zzS} (h : zzStep own ini pc il ls st Z = some r) :
    (∃ v, zzPush own il = some v ∧ r = (pc + il.2, ls, v :: st, Z)) ∨
    (∃ i t v, zzLd il = some (i, t) ∧ ls[i]? = some v ∧ zzIs t v = true ∧ r = (pc + il.2, ls, v :: st, Z)) ∨
    (∃ i t v st' ls', zzSd il = some (i, t) ∧ st = v :: st' ∧ zzIs t v = true ∧ zzSet ls i t v = some ls' ∧ r = (pc + il.2, ls', st', Z)) ∨
    zzAr pc il ls st Z = some r ∨ zzFlow pc il ls st Z = some r ∨ zzMem own ini pc il ls st Z = some r ∨ zzPrim own pc il ls st Z = some r := by
  unfold zzStep at h
  split at h
  · next v hv => cases h; exact Or.inl ⟨v, hv, rfl⟩
  split at h
  · next i t hit =>
    split at h
    · next v hv =>
      split at h
      · next ht => cases h; exact Or.inr (Or.inl ⟨i, t, v, hit, hv, ht, rfl⟩)
      · cases h
    · cases h
  split at h
  · next i t hit =>
    split at h
    · next v st' =>
      split at h
      · next ht =>
        obtain ⟨ls', hs, rfl⟩ := Option.map_eq_some_iff.mp h
        exact Or.inr (Or.inr (Or.inl ⟨i, t, v, st', ls', hit, rfl, ht, hs, rfl⟩))
      · cases h
    · cases h
  split at h
  · next q hq => cases h; exact Or.inr (Or.inr (Or.inr (Or.inl hq)))
  split at h
  · next q hq => cases h; exact Or.inr (Or.inr (Or.inr (Or.inr (Or.inl hq))))
  split at h
  · next q hq => cases h; exact Or.inr (Or.inr (Or.inr (Or.inr (Or.inr (Or.inl hq)))))
  exact Or.inr (Or.inr (Or.inr (Or.inr (Or.inr (Or.inr h)))))
theorem zzStep_le {own pc : Nat} {ini : Bool} {il : Instr × Nat} {ls st : List Value} {Z : zzH} {r : zzS} (h : zzStep own ini pc il ls st Z = some r) : Z.1.length ≤ r.2.2.2.1.length ∧ zzSl Z ≤ zzSl r.2.2.2 := by
  rcases zzStep_cases h with ⟨v, -, rfl⟩ | ⟨i, t, v, -, -, -, rfl⟩ | ⟨i, t, v, st', ls', -, -, -, -, rfl⟩ | h | h | h | h
  · exact ⟨Nat.le_refl _, Nat.le_refl _⟩
  · exact ⟨Nat.le_refl _, Nat.le_refl _⟩
  · exact ⟨Nat.le_refl _, Nat.le_refl _⟩
  · rw [(zzAr_le h).2]; exact ⟨Nat.le_refl _, Nat.le_refl _⟩
  · rw [zzFlow_le h]; exact ⟨Nat.le_refl _, Nat.le_refl _⟩
  · exact ⟨(zzMem_le h).1, (zzMem_le h).2.1⟩
  · unfold zzSl; rw [(zzPrim_le h).1]; exact ⟨Nat.le_refl _, Nat.le_refl _⟩
theorem zzExec_le : ∀ (n d y pc : Nat) (ls st : List Value) (Z : zzH) (r : Option Value) (Zf : zzH), zzExec n d y pc ls st Z = some (r, Zf) → Z.1.length ≤ Zf.1.length ∧ zzSl Z ≤ zzSl Zf := by
  intro n
  induction n with
  | zero => intro d y pc ls st Z r Zf h; simp [zzExec] at h
  | succ n ih =>
    intro d y pc ls st Z r Zf h
    unfold zzExec at h
    split at h
    · cases h
    split at h
    · cases h; exact ⟨Nat.le_refl _, Nat.le_refl _⟩
    split at h
    · split at h
      · cases h
      split at h
      · cases h
      · next h4 =>
        have a1 := ih _ _ _ _ _ _ _ _ h4
        have a2 := ih _ _ _ _ _ _ _ _ h
        exact ⟨Nat.le_trans a1.1 a2.1, Nat.le_trans a1.2 a2.2⟩
    · split at h
      · cases h
      · next h4 =>
        have a1 := zzStep_le h4
        have a2 := ih _ _ _ _ _ _ _ _ h
        exact ⟨Nat.le_trans a1.1 a2.1, Nat.le_trans a1.2 a2.2⟩
theorem zz_sub {a : Nat} (h1 : 1000 ≤ a) (h2 : a < 1013) : ∃ j : Nat, j < 13 ∧ a = 1000 + j ∧ a - 1000 = j := ⟨a - 1000, by omega, by omega, rfl⟩
section ZZP
variable {p : Program} {l : Launch} {e : Env} {R : Room} {s : State} {m : MethodId} {args : Array Value} {below : List Frame} {meth : Method} {c : Code} {H : Heap} {locs : List Loc} {cells slots : Nat} {Q : State → Prop}
variable {cc : ByteArray} {pc nL : Nat} {lsA : Array Slot} {σ : Nat → Nat} {ls : List Value} {own B : Nat} {dC : Nat → ClassId} {dI : Nat → Nat → Nat} {ca : Nat → ClassId} {sx : Int64 × (Nat → Int32)} {adV : Nat → Nat}
theorem zz_gi {r : (Nat × Nat) × Nat × Nat} (hr : r ∈ zzML) {pre : List Cond} (hp : pre = zzMLc r) {y : Cond} (hy : y ∈ ZW) : GoodIn ZW (pre ++ (y :: ZW)) := by
  subst hp
  intro w hw
  rcases List.mem_append.mp hw with h | h
  · have h1 := zzMLw r hr w h
    exact ⟨ZW_of h1.1 h1.2, good_of_word h1.2⟩
  · rcases List.mem_cons.mp h with rfl | h
    · exact ⟨hy, ZW_good hy⟩
    · exact ⟨h, ZW_good h⟩
set_option maxHeartbeats 2000000 in
theorem zzs_prim {il : Instr × Nat} {st : List Value} {Z : zzH} {r : zzS} {L0 : Nat} (hx : p.tables.exec = Jvm.exec) (hb : c.code = cc) (hml : c.maxLocals = nL) (hl : lv_has lsA nL (zzAs σ 0 ls)) (hown : s.vm.findClass (zzR own) = some m.cls) (hts : ∀ w ∈ ZW, w.before args s = true)
    (hfr : zzFr B σ dC dI ca sx adV s s.heap) (hσ : ∀ a, a < 1000 → σ a = B + a) (hR : 9 ≤ R.frames ∧ 400 ≤ R.locals) (hrel : zzRel B σ dC dI ca sx Z H) (hS : va_S (fun q : Nat => B ≤ q) s.heap H locs) (h0 : s.heap.size = B + L0) (hc : cells + L0 = Z.1.length) (hcc : cells ≤ R.cells) (hss : slots ≤ R.slots)
    (hd : decode cc pc = .ok il) (h : zzPrim own pc il ls st Z = some r)
    (kk : ∀ (H' : Heap) (locs' : List Loc), zzRel B σ dC dI ca sx r.2.2.2 H' → va_S (fun q : Nat => B ≤ q) s.heap H' locs' →
      W p l e R s m args below meth c H' locs' cells slots Q (F0 m r.1 lsA (r.2.2.1.map (zzV σ)))) : W p l e R s m args below meth c H locs cells slots Q (F0 m pc lsA (st.map (zzV σ))) := by
  have hE := hfr.2.2.2.2.2.2.1
  unfold zzPrim at h
  split at h
  · next i =>
    split at h
    · next y a st' hk =>
      split at h
      · next hcat =>
        cases h
        have hm := zzGet_mem hk
        have hw := fun w hw => ZW_of (zzMLw _ hm w hw).1 (zzMLw _ hm w hw).2
        refine W.objInit hx hb hown (hts _ (hw _ (List.mem_of_getElem? (i := 0) rfl))) (hts _ (hw _ (List.mem_of_getElem? (i := 1) rfl))) (hts _ (hw _ (List.mem_of_getElem? (i := 2) rfl))) (g := F0 m pc lsA (.ref (σ a) :: st'.map (zzV σ))) rfl (hl.1.trans hml.symm) rfl hd (by omega) ?_ (kk H locs hrel hS)
        have h1 := zzCat_map' σ st' hcat
        have h2 := lv_room (m := m) (pc := pc) (ls := lsA) (rest := (.ref (σ a) :: st'.map (zzV σ))) h1
        omega
      · cases h
    · cases h
  · next i =>
    split at h
    · next y n dp a sp b st' hk =>
      split at h
      · next q w hq hw0 =>
        split at h
        · next hcd =>
          cases h
          obtain ⟨hcat, hq8, hw8, g1, g2, g3, g4, g5⟩ := hcd
          have hm := zzGet_mem hk
          have hw := fun w hw => ZW_of (zzMLw _ hm w hw).1 (zzMLw _ hm w hw).2
          refine va_copyi hx hb (hml.trans hl.1.symm) hown (hts _ (hw _ (List.mem_of_getElem? (i := 0) rfl))) (hts _ (hw _ (List.mem_of_getElem? (i := 1) rfl))) (hts _ (hw _ (List.mem_of_getElem? (i := 2) rfl))) (hts _ (hw _ (List.mem_of_getElem? (i := 3) rfl))) hfr.1 hrel.2.1 (zzWs_D hσ hrel.1) hS b a 0 0 (by rw [zzWs_at hw0, zzCell_8 hw8]) (by rw [zzWs_at hq, zzCell_8 hq8]) rfl rfl rfl g1 g2 g3 g4 g5 (fun _ _ => rfl) (by omega) ?_ hd (fun H1 locs1 hP1 _ hS1 => ?_)
          · have h1 := zzCat_map' σ st' hcat
            have h2 : nativeFrameWords "java/lang/System" "arraycopy" 5 ≤ 100 := by decide +kernel
            omega
          · refine kk H1 locs1 ?_ hS1
            refine zzm_row hrel hq ?_ ?_ ?_ hP1
            · rfl
            · rw [zzCell_8 hq8]; dsimp only; rw [zzRo_eq]
            · exact fun x hxa => ⟨rfl, rfl, zzRo_ne hxa⟩
        · cases h
      · cases h
    · cases h
  · next i =>
    split at h
    · next y a st' hk =>
      split at h
      · next hcd =>
        cases h
        obtain ⟨g1, g2, hcat⟩ := hcd
        obtain ⟨j, hj, rfl, ej⟩ := zz_sub g1 g2
        rw [ej] at kk
        have hm := zzGet_mem hk
        intro T hT X
        have hsz := zz_size X hT hσ hrel hS h0 hc
        refine (?_ : W p l e R s m args below meth c H locs cells slots Q (F0 m pc lsA (.ref (σ (1000 + j)) :: st'.map (zzV σ)))) T hT X
        refine zz_call (r := some (.int (Int32.ofNat (zzTx j).length))) (Z' := Z) (va_runV (As := []) (rest := st'.map (zzV σ)) ⟨hx, hb, hml, hown, hts⟩ (zzj_length hj Z) (cwV 0 hts (zz_gi hm rfl (zzKi 20 rfl)) rfl rfl rfl (by decide +kernel) ⟨by show 2 + 1 ≤ _; omega, by show 8 + (1 + 11) + 80 ≤ _; omega⟩) ⟨zzPre_blind, vk_recv hE hj hS, fun U hU hW => zz_pre (as := [.ref (σ (1000 + j))]) hfr hrel hsz hS hU hW⟩ rfl rfl hl.1 rfl (lv_room (zzCat_map' σ st' hcat)) hd ⟨hcc, hss⟩) hS (fun H1 locs1 hrel1 hS1 => kk H1 locs1 hrel1 hS1)
      · cases h
    · next y k a st' hk =>
      split at h
      · next hcd =>
        cases h
        obtain ⟨g1, g2, hcat, hin⟩ := hcd
        obtain ⟨j, hj, rfl, ej⟩ := zz_sub g1 g2
        rw [ej] at kk hin
        have hm := zzGet_mem hk
        intro T hT X
        have hsz := zz_size X hT hσ hrel hS h0 hc
        refine (?_ : W p l e R s m args below meth c H locs cells slots Q (F0 m pc lsA (.int k :: .ref (σ (1000 + j)) :: st'.map (zzV σ)))) T hT X
        refine zz_call (r := some (.int (Int32.ofNat ((zzTx j).getD k.toNatClampNeg 0)))) (Z' := Z) (va_runV (As := [.int k]) (rest := st'.map (zzV σ)) ⟨hx, hb, hml, hown, hts⟩ (zzj_charAt hj hin Z) (cwV 1 hts (zz_gi hm rfl (zzKi 25 rfl)) rfl rfl rfl (by decide +kernel) ⟨by show 4 + 1 ≤ _; omega, by show 8 + (2 + 11) + 160 ≤ _; omega⟩) ⟨zzPre_blind, vk_recv hE hj hS, fun U hU hW => zz_pre (as := [.ref (σ (1000 + j)), .int k]) hfr hrel hsz hS hU hW⟩ rfl rfl hl.1 rfl (lv_room (zzCat_map' σ st' hcat)) hd ⟨hcc, hss⟩) hS (fun H1 locs1 hrel1 hS1 => kk H1 locs1 hrel1 hS1)
      · cases h
    · cases h
  · cases h
end ZZP
end
section
/-! the body, by induction on the run -/
theorem zzPlain : ∀ c, c < 8 → plainName (zzR c) = true := by decide +kernel
theorem zzKd : ∀ y, y < zzLaw → (zzM y).2.2.2.2.2.2.1 = 2 → (zzM y).1.name = "<init>" := by decide +kernel
theorem zzEnt_sub (σ : Nat → Nat) (k : Nat) : ∀ (as : List Value) (i : Nat) (q : Nat × Value), q ∈ zzAs σ i (zzEnt as ++ List.replicate k zzU) → q ∈ lv_args i (as.map (zzV σ)) := by
  intro as
  induction as with
  | nil =>
    intro i q hq
    obtain ⟨j, v, h1, h2, -⟩ := (zzAs_mem σ _ _ _).mp hq
    exact absurd (List.eq_of_mem_replicate (List.mem_of_getElem? h1)) h2
  | cons v vs ih =>
    intro i q hq
    unfold zzEnt at hq
    rw [List.map_cons]
    unfold lv_args
    rw [zzV_cat]
    split at hq
    · next hc =>
      rw [List.cons_append, List.cons_append] at hq
      unfold zzAs at hq
      split at hq
      · next hv => rw [hv] at hc; cases hc
      · rcases List.mem_cons.mp hq with rfl | hq
        · exact List.mem_cons_self
        · unfold zzAs at hq
          rw [if_pos rfl] at hq
          rw [if_pos hc]
          exact List.mem_cons_of_mem _ (ih _ _ hq)
    · next hc =>
      rw [List.cons_append] at hq
      rw [if_neg hc]
      unfold zzAs at hq
      split at hq
      · exact List.mem_cons_of_mem _ (ih _ _ hq)
      · rcases List.mem_cons.mp hq with rfl | hq
        · exact List.mem_cons_self
        · exact List.mem_cons_of_mem _ (ih _ _ hq)
theorem zzEnt_len (σ : Nat → Nat) : ∀ as : List Value, (lg_sl (as.map (zzV σ))).length = (zzEnt as).length := by
  intro as
  induction as with
  | nil => rfl
  | cons v vs ih =>
    unfold lg_sl at ih ⊢
    unfold zzEnt
    rw [List.map_cons, List.flatMap_cons, List.length_append, ih, zzV_cat]
    split
    · simp; omega
    · simp; omega
theorem zzIn_len {y : Nat} {as : List Value} (h : (zzEnt as).length ≤ (zzM y).2.2.1) : (zzIn y as).length = (zzM y).2.2.1 := by
  unfold zzIn
  rw [List.length_append, List.length_replicate]
  omega
section ZZD
variable {l : Launch} {σ : Nat → Nat} {B : Nat} {dC : Nat → ClassId} {dI : Nat → Nat → Nat} {ca : Nat → ClassId} {sx : Int64 × (Nat → Int32)} {adV : Nat → Nat}
/-- what a run says of the machine -/
def zzBd (l : Launch) (σ : Nat → Nat) (B : Nat) (dC : Nat → ClassId) (dI : Nat → Nat → Nat) (ca : Nat → ClassId) (sx : Int64 × (Nat → Int32)) (adV : Nat → Nat) (n : Nat) : Prop :=
  ∀ (d y pc : Nat) (ls st : List Value) (Z : zzH) (r : Option Value) (Zf : zzH), zzExec n d y pc ls st Z = some (r, Zf) →
  ∀ (p : Program) (e : Env) (R : Room) (s : State) (m : MethodId) (args : Array Value) (below : List Frame) (meth : Method) (c : Code) (H : Heap) (locs : List Loc) (cells slots L0 S0 : Nat) (Q : State → Prop) (lsA : Array Slot),
    p.tables.exec = Jvm.exec → c.code = (zzM y).2.1 → c.maxLocals = (zzM y).2.2.1 → s.vm.findClass (zzR (zzM y).2.2.2.2.1) = some m.cls → (∀ w ∈ ZW, w.before args s = true) → zzFr B σ dC dI ca sx adV s s.heap →
    (((zzM y).2.2.2.2.2.2.1 == 2) = true → meth.name = "<init>") → (d + 9 ≤ R.frames ∧ 40 * d + 400 ≤ R.locals) → zzRel B σ dC dI ca sx Z H → va_S (fun q : Nat => B ≤ q) s.heap H locs → s.heap.size = B + L0 → cells + L0 = Z.1.length → slots + S0 = zzSl Z →
    Zf.1.length ≤ R.cells + L0 → zzSl Zf ≤ R.slots + S0 → lv_has lsA (zzM y).2.2.1 (zzAs σ 0 ls) → ls.length = (zzM y).2.2.1 →
    (∀ (pcf : Nat) (lsA' : Array Slot) (H' : Heap) (locs' : List Loc) (cells' slots' : Nat) (il : Instr × Nat) (st' : List Value), decode (zzM y).2.1 pcf = .ok il → zzRet (zzM y).2.2.2.1 il st' = some r → zzRel B σ dC dI ca sx Zf H' → va_S (fun q : Nat => B ≤ q) s.heap H' locs' → cells' + L0 = Zf.1.length → slots' + S0 = zzSl Zf →
      W p l e R s m args below meth c H' locs' cells' slots' Q (F0 m pcf lsA' (st'.map (zzV σ)))) →
    W p l e R s m args below meth c H locs cells slots Q (F0 m pc lsA (st.map (zzV σ)))
theorem zz_ret {p : Program} {e : Env} {R : Room} {s : State} {m : MethodId} {args : Array Value} {below : List Frame} {meth : Method} {c : Code} {H : Heap} {locs : List Loc} {mc ms : Nat} {cc : ByteArray} {pc : Nat} {lsA : Array Slot} {ret : Option FieldType} {il : Instr × Nat} {st : List Value} {r : Option Value} {Z : zzH}
    (hx : p.tables.exec = Jvm.exec) (hb : c.code = cc) (hr : meth.sig.returnType = ret) (hlocks : meth.locks = false) (hd : decode cc pc = .ok il) (h : zzRet ret il st = some r) (hrel : zzRel B σ dC dI ca sx Z H) (hS : va_S (fun q : Nat => B ≤ q) s.heap H locs) :
    W p l e R s m args below meth c H locs mc ms (MQ below (zzQ B σ dC dI ca sx r Z) args s mc ms (fun q : Nat => B ≤ q)) (F0 m pc lsA (st.map (zzV σ))) := by
  unfold zzRet at h
  split at h
  · cases h; exact W.iret hx hb hr (fun t ht _ => ⟨rfl, by rw [ht]; exact hrel, va_S.F hS ht⟩) (fun q h => hS.2.2 q h) hd hlocks
  · split at h
    · next hv =>
      cases h
      exact W.zret hx hb hr (by rcases hv with rfl | rfl <;> rfl) (fun t ht _ => ⟨rfl, by rw [ht]; exact hrel, va_S.F hS ht⟩) (fun q h => hS.2.2 q h) hd hlocks
    · cases h
  · cases h; exact W.lret hx hb hr (fun t ht _ => ⟨rfl, by rw [ht]; exact hrel, va_S.F hS ht⟩) (fun q h => hS.2.2 q h) hd hlocks
  · cases h; exact W.aret hx hb hr (Or.inl ⟨_, rfl⟩) (Or.inr ⟨_, rfl⟩) (fun t ht _ => ⟨rfl, by rw [ht]; exact hrel, va_S.F hS ht⟩) (fun q h => hS.2.2 q h) hd hlocks
  · cases h; exact W.aret hx hb hr (Or.inl ⟨_, rfl⟩) (Or.inl rfl) (fun t ht _ => ⟨rfl, by rw [ht]; exact hrel, va_S.F hS ht⟩) (fun q h => hS.2.2 q h) hd hlocks
  · cases h; exact W.vret hx hb hr (fun t ht _ => ⟨rfl, by rw [ht]; exact hrel, va_S.F hS ht⟩) (fun q h => hS.2.2 q h) hd hlocks
  · cases h
/-- a method's contract out of its run -/
theorem zzMet_of {n d y : Nat} {as : List Value} {Z Zf : zzH} {r : Option Value} (hB : zzBd l σ B dC dI ca sx adV n) (h : zzExec n d y 0 (zzIn y as) [] Z = some (r, Zf)) (hpl : plainName (zzM y).1.cls = true) (hcls : (zzM y).1.cls = zzR (zzM y).2.2.2.2.1) (hkd : (zzM y).2.2.2.2.2.2.1 = 2 → (zzM y).1.name = "<init>") (hlen : (zzEnt as).length ≤ (zzM y).2.2.1) :
    Met l (zzM y).1 (Jvm.Cond.code (zzM y).1 (zzM y).2.1 (zzM y).2.2.1 (zzM y).2.2.2.1 :: ZW) (zzRm d (Zf.1.length - Z.1.length) (zzSl Zf - zzSl Z)) (va_Pc (as.map (zzV σ)) (zzPre B σ dC dI ca sx adV Z)) (zzQ B σ dC dI ca sx r Zf) (Zf.1.length - Z.1.length) (zzSl Zf - zzSl Z) (fun q : Nat => B ≤ q) := by
  have hle := zzExec_le _ _ _ _ _ _ _ _ _ h
  refine zz_met hpl (by rw [zzEnt_len]; exact hlen) ?_
  intro p e s m below meth c hx hb hml hr hlocks hown hin hts hfr hrel hsz lsA hl
  have hS : va_S (fun q : Nat => B ≤ q) s.heap s.heap [] := va_S.rf
  refine hB d y 0 (zzIn y as) [] Z r Zf h p e _ s m _ below meth c s.heap [] 0 0 Z.1.length (zzSl Z) _ lsA hx hb hml (hcls ▸ hown) hts hfr (fun hk => hin.trans (hkd (by simpa using hk))) ⟨Nat.le_refl _, Nat.le_refl _⟩ hrel hS hsz (Nat.zero_add _) (Nat.zero_add _) (by show _ ≤ (Zf.1.length - Z.1.length) + _; omega) (by show _ ≤ (zzSl Zf - zzSl Z) + _; omega) (zz_mono hl (zzEnt_sub σ _ as 0)) (zzIn_len hlen) ?_
  intro pcf lsA' H' locs' cells' slots' il st' hd hret hrel' hS' hc' hs'
  have e1 : cells' = Zf.1.length - Z.1.length := by omega
  have e2 : slots' = zzSl Zf - zzSl Z := by omega
  rw [e1, e2]
  exact zz_ret hx hb hr hlocks hd hret hrel' hS'
end ZZD
end
section
/-! every run of the function is a run of the machine -/
theorem zzIk_spec {il : Instr × Nat} {i md : Nat} (h : zzIk il = some (i, md)) : (md = 0 ∧ il = (.invokestatic i, 3)) ∨ (md = 2 ∧ il = (.invokevirtual i, 3)) ∨ (md = 3 ∧ il = (.invokespecial i, 3)) := by
  unfold zzIk at h
  split at h
  · cases h; exact Or.inl ⟨rfl, rfl⟩
  · cases h; exact Or.inr (Or.inl ⟨rfl, rfl⟩)
  · cases h; exact Or.inr (Or.inr ⟨rfl, rfl⟩)
  · cases h
theorem zzInv_spec {own : Nat} {il : Instr × Nat} {st as rest : List Value} {Z : zzH} {y : Nat} (h : zzInv own il st Z = some (y, as, rest)) : ∃ i md kd, zzIk il = some (i, md) ∧ zzGet zzML own i = some (kd, y) ∧ (zzM y).2.2.2.2.2.1 ≤ st.length ∧ zzCat rest ≤ 8 ∧ (zzEnt as).length ≤ (zzM y).2.2.1 ∧ ((md = 0 ∧ kd ≤ 1) ∨ (md = 2 ∧ kd = 2 ∧ zzRcv 2 y as Z = true) ∨ (md = 3 ∧ kd = 3 ∧ zzRcv 3 y as Z = true)) ∧ as = (st.take (zzM y).2.2.2.2.2.1).reverse ∧ rest = st.drop (zzM y).2.2.2.2.2.1 := by
  unfold zzInv at h
  split at h
  · cases h
  · next i md hik =>
    split at h
    · cases h
    · next kd y0 hg =>
      split at h
      · next hc =>
        cases h
        exact ⟨i, md, kd, hik, hg, hc.1, hc.2.1, hc.2.2.1, hc.2.2.2, rfl, rfl⟩
      · cases h
theorem zzMd_at {y pc : Nat} {il : Instr × Nat} (h : zzLk (zzM y).2.2.2.2.2.2.2 pc = some il) : decode (zzM y).2.1 pc = .ok il := zzMd y (pc, il) (zzLk_mem h)
theorem zzNest_in : ∀ r ∈ zzML, r.2.1 = 1 → (r.1.1, r.1.2, r.2.2) ∈ zzNest := by decide +kernel
section ZZT
variable {p : Program} {l : Launch} {e : Env} {R : Room} {s : State} {m : MethodId} {args : Array Value} {below : List Frame} {meth : Method} {c : Code} {H : Heap} {locs : List Loc} {cells slots : Nat} {Q : State → Prop}
variable {cc : ByteArray} {pc nL : Nat} {lsA : Array Slot} {σ : Nat → Nat} {ls : List Value} {own B : Nat} {dC : Nat → ClassId} {dI : Nat → Nat → Nat} {ca : Nat → ClassId} {sx : Int64 × (Nat → Int32)} {adV : Nat → Nat}
set_option maxHeartbeats 2000000 in
theorem zzs_step {il : Instr × Nat} {st : List Value} {Z : zzH} {r : zzS} {ini : Bool} {L0 S0 : Nat} (hx : p.tables.exec = Jvm.exec) (hb : c.code = cc) (hml : c.maxLocals = nL) (hown : s.vm.findClass (zzR own) = some m.cls) (hts : ∀ w ∈ ZW, w.before args s = true)
    (hfr : zzFr B σ dC dI ca sx adV s s.heap) (hσ : ∀ a, a < 1000 → σ a = B + a) (hini : ini = true → meth.name = "<init>") (hR : 9 ≤ R.frames ∧ 400 ≤ R.locals) (hrel : zzRel B σ dC dI ca sx Z H) (hS : va_S (fun q : Nat => B ≤ q) s.heap H locs) (h0 : s.heap.size = B + L0) (hc : cells + L0 = Z.1.length) (hsl : slots + S0 = zzSl Z)
    (hl : lv_has lsA nL (zzAs σ 0 ls)) (hn : ls.length = nL) (hd : decode cc pc = .ok il) (h : zzStep own ini pc il ls st Z = some r) (hcap : r.2.2.2.1.length ≤ R.cells + L0) (hscap : zzSl r.2.2.2 ≤ R.slots + S0)
    (kk : ∀ (lsA' : Array Slot) (H' : Heap) (locs' : List Loc) (cells' slots' : Nat), lv_has lsA' nL (zzAs σ 0 r.2.1) → r.2.1.length = nL → zzRel B σ dC dI ca sx r.2.2.2 H' → va_S (fun q : Nat => B ≤ q) s.heap H' locs' → cells' + L0 = r.2.2.2.1.length → slots' + S0 = zzSl r.2.2.2 →
      W p l e R s m args below meth c H' locs' cells' slots' Q (F0 m r.1 lsA' (r.2.2.1.map (zzV σ)))) : W p l e R s m args below meth c H locs cells slots Q (F0 m pc lsA (st.map (zzV σ))) := by
  have hle := zzStep_le h
  rcases zzStep_cases h with ⟨v, hv, rfl⟩ | ⟨i, t, v, h1, h2, h3, rfl⟩ | ⟨i, t, v, st', ls', h1, rfl, h3, h4, rfl⟩ | h | h | h | h
  · exact zzs_push hx hb hown hts hfr.2.2.2.2.2.1 hd hv (kk lsA H locs cells slots hl hn hrel hS hc hsl)
  · exact zzs_ld hx hb hd h1 (zz_at hl h2 (zzIs_nU h3)) h3 (kk lsA H locs cells slots hl hn hrel hS hc hsl)
  · exact zzs_sd hx hb hd h1 h3 h4 hl hn (fun lsA' hl' => kk lsA' H locs cells slots hl' ((zzSet_len h4).trans hn) hrel hS hc hsl)
  · refine zzs_ar hx hb hd h (fun e1 e2 => ?_)
    rw [e1, e2] at kk
    exact kk lsA H locs cells slots hl hn hrel hS hc hsl
  · refine zzs_flow hx hb hd h hl hn (fun lsA' hl' hn' e2 => ?_)
    rw [e2] at kk
    exact kk lsA' H locs cells slots hl' hn' hrel hS hc hsl
  · refine zzs_mem hx hb hown hts hfr hσ hini hrel hS h0 hc hsl hd h hcap hscap (fun H' locs' cells' slots' e1 hr hS' hc' hs' => ?_)
    rw [e1] at kk
    exact kk lsA H' locs' cells' slots' hl hn hr hS' hc' hs'
  · obtain ⟨e1, e2⟩ := zzPrim_le h
    have e3 : zzSl r.2.2.2 = zzSl Z := by unfold zzSl; rw [e1]
    rw [e1] at hcap
    rw [e3] at hscap
    refine zzs_prim hx hb hml hl hown hts hfr hσ hR hrel hS h0 hc (by omega) (by omega) hd h (fun H' locs' hr hS' => ?_)
    rw [e2] at kk
    exact kk lsA H' locs' cells slots hl hn hr hS' (by rw [e1]; exact hc) (by rw [e3]; exact hsl)
end ZZT
section ZZU
variable {l : Launch} {σ : Nat → Nat} {B : Nat} {dC : Nat → ClassId} {dI : Nat → Nat → Nat} {ca : Nat → ClassId} {sx : Int64 × (Nat → Int32)} {adV : Nat → Nat}
theorem zz_stk (σ : Nat → Nat) (st : List Value) (k : Nat) : st.map (zzV σ) = (((st.take k).reverse).map (zzV σ)).reverse ++ (st.drop k).map (zzV σ) := by
  rw [← List.map_reverse, List.reverse_reverse, ← List.map_append, List.take_append_drop]
set_option maxHeartbeats 4000000 in
theorem zzBd_all (hσ : ∀ a, a < 1000 → σ a = B + a) : ∀ n, zzBd l σ B dC dI ca sx adV n := by
  intro n
  induction n with
  | zero => intro d y pc ls st Z r Zf h; simp [zzExec] at h
  | succ n ih =>
    intro d y pc ls st Z r Zf h p e R s m args below meth c H locs cells slots L0 S0 Q lsA hx hb hml hown hts hfr hini hR hrel hS h0 hc hsl hcap hscap hl hn hret
    have hleA := zzExec_le _ _ _ _ _ _ _ _ _ h
    unfold zzExec at h
    split at h
    · cases h
    next il hil =>
    have hd := zzMd_at hil
    split at h
    · next r' hr' => cases h; exact hret pc lsA H locs cells slots il st hd hr' hrel hS hc hsl
    split at h
    · next y' as rest hinv =>
      split at h
      · cases h
      next d' =>
      split at h
      · cases h
      next v Z1 hcall =>
      obtain ⟨i, md, kd, hik, hg, hk1, hcat, hlen, hmode, has, hrest⟩ := zzInv_spec hinv
      have hle1 := zzExec_le _ _ _ _ _ _ _ _ _ hcall
      have hle2 := zzExec_le _ _ _ _ _ _ _ _ _ h
      have hm := zzGet_mem hg
      have hkd3 : kd ≤ 3 := by omega
      have hw := fun w hw => hts w (ZW_of (zzMLw _ hm w hw).1 (zzMLw _ hm w hw).2)
      obtain ⟨q1, q2, q3, q4, q5, q6, q7, q8, q9, q10⟩ := zzMLr _ hm hkd3
      dsimp only at q1 q2 q3 q4 q5 q6 q7 q8 q9 q10
      have hM := zzMet_of ih hcall (q4 ▸ zzPlain _ q3) q4 (zzKd y' q1) hlen
      have hcode := zzMw y' q1
      intro T hT X
      have hsz := zz_size X hT hσ hrel hS h0 hc
      refine (?_ : W p l e R s m args below meth c H locs cells slots Q (F0 m pc lsA (st.map (zzV σ)))) T hT X
      have kont : ∀ (H1 : Heap) (locs1 : List Loc), zzRel B σ dC dI ca sx Z1 H1 → va_S (fun q : Nat => B ≤ q) s.heap H1 locs1 → W p l e R s m args below meth c H1 locs1 (cells + (Z1.1.length - Z.1.length)) (slots + (zzSl Z1 - zzSl Z)) Q (F0 m (pc + 3) lsA ((v.map (zzV σ)).toList ++ rest.map (zzV σ))) := by
        intro H1 locs1 hr1 hS1
        have e1 : (v.map (zzV σ)).toList ++ rest.map (zzV σ) = (v.toList ++ rest).map (zzV σ) := by cases v <;> simp
        rw [e1]
        exact ih _ _ _ _ _ _ _ _ h p e R s m args below meth c H1 locs1 _ _ L0 S0 Q lsA hx hb hml hown hts hfr hini hR hr1 hS1 h0 (by omega) (by omega) hcap hscap hl hn hret
      have hcells : cells + (Z1.1.length - Z.1.length) ≤ R.cells ∧ slots + (zzSl Z1 - zzSl Z) ≤ R.slots := ⟨by omega, by omega⟩
      have hroom : (zzRm d' (Z1.1.length - Z.1.length) (zzSl Z1 - zzSl Z)).frames + 1 ≤ R.frames ∧ 8 + ((zzM y').2.2.1 + 11) + (zzRm d' (Z1.1.length - Z.1.length) (zzSl Z1 - zzSl Z)).locals ≤ R.locals := ⟨by show d' + 9 + 1 ≤ _; omega, by show 8 + ((zzM y').2.2.1 + 11) + (40 * d' + 400) ≤ _; omega⟩
      have hstk : st.map (zzV σ) = (as.map (zzV σ)).reverse ++ rest.map (zzV σ) := by rw [has, hrest]; exact zz_stk σ st _
      have hasl : as.length = (zzM y').2.2.2.2.2.1 := by rw [has, List.length_reverse, List.length_take]; omega
      have hcat' := zzCat_map' σ rest hcat
      rcases hmode with ⟨hmd, hkd⟩ | ⟨hmd, hkd, hrcv⟩ | ⟨hmd, hkd, hrcv⟩
      · have hil2 : il = (.invokestatic i, 3) := by
          rcases zzIk_spec hik with ⟨-, h⟩ | ⟨h, -⟩ | ⟨h, -⟩
          · exact h
          · omega
          · omega
        rw [hil2] at hd
        rw [if_pos hkd, Nat.sub_zero] at q7
        have hk : kd = 0 ∨ kd = 1 := by omega
        rcases hk with hk0 | hk1'
        · subst hk0
          exact zz_call (va_runS (As := as.map (zzV σ)) (rest := rest.map (zzV σ)) ⟨hx, hb, hml, hown, hts⟩ hM ⟨callB_of (zzM y').2.2.2.2.2.1 hts (zz_goodZ hcode) rfl rfl rfl (hw _ (List.mem_of_getElem? (i := 2) rfl)) (hw _ (List.mem_of_getElem? (i := 0) rfl)) ⟨q5, q6, q7⟩ hroom, hw _ (List.mem_of_getElem? (i := 1) rfl)⟩ ⟨zzPre_blind, fun U hU hW => zz_pre hfr hrel hsz hS hU hW⟩ rfl (by rw [List.length_map]; exact hasl) hl.1 hstk (lv_room hcat') hd hcells) hS kont
        · subst hk1'
          have hnw : va_Nw (.methodLinkNest (zzR (zzM y).2.2.2.2.1) i (zzM y').1 RX6) s := hfr.2.2.1 ((zzM y).2.2.2.2.1, i, y') (zzNest_in _ hm rfl)
          exact zz_call (va_runSN (As := as.map (zzV σ)) (rest := rest.map (zzV σ)) ⟨hx, hb, hml, hown, hts⟩ hM ⟨va_cnB (zzM y').2.2.2.2.2.1 hts (zz_goodZ hcode) rfl rfl rfl hnw (hw _ (List.mem_of_getElem? (i := 1) rfl)) ⟨q5, q6, q7⟩ hroom, hw _ (List.mem_of_getElem? (i := 0) rfl), trivial⟩ ⟨zzPre_blind, fun U hU hW => zz_pre hfr hrel hsz hS hU hW⟩ rfl (by rw [List.length_map]; exact hasl) hl.1 hstk (lv_room hcat') hd hcells) hS kont
      · have hil2 : il = (.invokevirtual i, 3) := by
          rcases zzIk_spec hik with ⟨h, -⟩ | ⟨-, h⟩ | ⟨h, -⟩
          · omega
          · exact h
          · omega
        rw [hil2] at hd
        subst hkd
        rw [if_neg (by omega)] at q7
        unfold zzRcv at hrcv
        split at hrcv
        · next a as' =>
          split at hrcv
          · next q hq =>
            have hqc : q.1 = (zzM y').2.2.2.2.1 := by simpa using hrcv
            have hq8 : q.1 < 8 := by rw [hqc]; exact q3
            have hstk2 : st.map (zzV σ) = (as'.map (zzV σ)).reverse ++ .ref (σ a) :: rest.map (zzV σ) := by
              rw [hstk, List.map_cons, List.reverse_cons, List.append_assoc]; rfl
            have hrc := va_recv hfr.1 hrel.2.1 (ci := q.1) (q0 := a) (zzCl_ok _ hq8) (by rw [zzWs_at hq, zzCell_o hq8])
            rw [hqc] at hrc
            exact zz_call (va_runV (C := zzR (zzM y').2.2.2.2.1) (As := as'.map (zzV σ)) (rest := rest.map (zzV σ)) ⟨hx, hb, hml, hown, hts⟩ hM ⟨callB_of ((zzM y').2.2.2.2.2.1 - 1) hts (zz_goodZ hcode) rfl rfl rfl (hw _ (List.mem_of_getElem? (i := 3) rfl)) (hw _ (List.mem_of_getElem? (i := 0) rfl)) ⟨q5, q6, q7⟩ hroom, hw _ (List.mem_of_getElem? (i := 1) rfl), hw _ (List.mem_of_getElem? (i := 2) rfl)⟩ ⟨zzPre_blind, hrc, fun U hU hW => zz_pre hfr hrel hsz hS hU hW⟩ rfl (by rw [List.length_map]; rw [← hasl]; simp) hl.1 hstk2 (lv_room hcat') hd hcells) hS kont
          · cases hrcv
        · cases hrcv
      · have hil2 : il = (.invokespecial i, 3) := by
          rcases zzIk_spec hik with ⟨h, -⟩ | ⟨h, -⟩ | ⟨-, h⟩
          · omega
          · omega
          · exact h
        rw [hil2] at hd
        subst hkd
        rw [if_neg (by omega)] at q7
        obtain ⟨hinit, hretn⟩ := q9 rfl
        unfold zzRcv at hrcv
        split at hrcv
        · next a as' =>
          have hstk2 : st.map (zzV σ) = (as'.map (zzV σ)).reverse ++ .ref (σ a) :: rest.map (zzV σ) := by
            rw [hstk, List.map_cons, List.reverse_cons, List.append_assoc]; rfl
          rw [hretn] at hM hcode
          exact zz_call (va_runI (As := as'.map (zzV σ)) (rest := rest.map (zzV σ)) ⟨hx, hb, hml, hown, hts⟩ hM ⟨callB_of ((zzM y').2.2.2.2.2.1 - 1) hts (zz_goodZ hcode) rfl rfl rfl (hw _ (List.mem_of_getElem? (i := 2) rfl)) (hw _ (List.mem_of_getElem? (i := 0) rfl)) ⟨q5, q6, q7⟩ hroom, hinit, hw _ (List.mem_of_getElem? (i := 1) rfl)⟩ ⟨zzPre_blind, fun U hU hW => zz_pre hfr hrel hsz hS hU hW⟩ rfl (by rw [List.length_map]; rw [← hasl]; simp) hl.1 hstk2 (lv_room hcat') hd hcells) hS kont
        · cases hrcv
    · split at h
      · cases h
      · next pc' ls' st' Z' hstep =>
        have hle1 := zzStep_le hstep
        have hle2 := zzExec_le _ _ _ _ _ _ _ _ _ h
        dsimp only at hle1
        exact zzs_step hx hb hml hown hts hfr hσ hini ⟨by omega, by omega⟩ hrel hS h0 hc hsl hl hn hd hstep (by dsimp only; omega) (by dsimp only; omega) (fun lsA' H' locs' cells' slots' hl' hn' hr' hS' hc' hs' => ih _ _ _ _ _ _ _ _ h p e R s m args below meth c H' locs' cells' slots' L0 S0 Q lsA' hx hb hml hown hts hfr hini hR hr' hS' h0 hc' hs' hcap hscap hl' hn' hret)
end ZZU
end
section
/-! the law's end (out of the given skeleton) -/
/-! THE CLAIM OUT OF ONE WALK OF THE LAW'S BODY. Your part is whole_start (and what it stands on); all else here is the same for every law, but numbers. -/
def R_law : String := "BackSeatLaw"
def lw_P (b : Addr) (xs : List Int32) (args : Array Value) (s : State) : Prop := args = #[.ref b] ∧ s.IntsAt b xs ∧ xs.length ≤ 3072 ∧ (Jvm.Cond.and given_1 narrow_1).before args s = true
def lw_Q (_ : Array Value) (s : State) (o : Outcome) (t : State) : Prop := o = .returned (some (.int 1)) ∧ Framed s o t [] 600000 7302250
def lw_Z (below : List Frame) (a : Array Value) (s : State) : State → Prop := fun t => ∃ o, t.status = .running ∧ Ended t below o ∧ lw_Q a s o t
/-- the law's own end, with 1 on the stack, nothing written that was there before, its room as the claim has it -/
theorem lw_ret {p : Program} {l : Launch} {e : Env} {s : State} {m : MethodId} {below : List Frame} {meth : Method} {c : Code} {b : Nat} (hx : p.tables.exec = Jvm.exec) (hb : c.code = code) (hr : meth.sig.returnType = ret) (hlocks : meth.locks = false) {pc : Nat} {H : Heap} {ls : Array Slot} (hdg : decode code pc = .ok (.ireturn, 1)) : W p l e room_1 s m #[Value.ref b] below meth c H [] 600000 7302250 (lw_Z below #[Value.ref b] s) (F0 m pc ls [.int 1]) := by
  intro T hT X
  obtain ⟨fs, hret, hrun, hended, hW, hframe⟩ := X.leave (v := some (.int 1)) (hlocks := hlocks) (fun h => by rw [hr] at h; cases h)
  have hmeth' : T.vm.method? m = some meth := X.method'
  refine ⟨T.setFrames fs, ?_, .returned (some (.int 1)), hrun, hended, rfl, ⟨_, rfl⟩, hW, hframe⟩
  jvm_step X.here [X.here.top, hx, hb, hdg, hmeth', hr, ret, narrow_b1]
  (try refine ⟨rfl, ?_⟩); (try refine ⟨rfl, ?_⟩)
  first | (intro acts; rw [hret _ acts rfl rfl rfl]) | rw [hret _ _ rfl rfl rfl]
  exact Steps.refl _
/-- what holds at the law's entry: the machine, the code, the tables' words (any of lw_tbl by 'hts w (by decide +kernel)'), the script of L ints xs at the cell b, what the Statement gives of the start (any of its parts by flat_of_before) -/
def lw_At (p : Program) (s : State) (m : MethodId) (meth : Method) (c : Code) (b L : Nat) (xs : Nat → Int32) : Prop :=
  p.tables.exec = Jvm.exec ∧ c.code = code ∧ meth.sig.returnType = ret ∧ c.maxLocals = 4 ∧ s.vm.findClass R_law = some m.cls ∧ (∀ w ∈ lw_tbl, w.before #[Value.ref b] s = true) ∧ va_X b L xs s s.heap ∧ b < s.heap.size ∧ meth.locks = false ∧ (Jvm.Cond.and given_1 narrow_1).before #[Value.ref b] s = true
end
section
/-! the law's start: a run of the law's own body gives the claim -/
theorem zzM_law : zzM zzLaw = (yL_law, cL_law, 4, (some .boolean), 8, 1, 0, zzc_213) := by
  have e : zzMsA.length = 213 := by decide +kernel
  unfold zzM zzMs zzLaw
  rw [List.getD_eq_getElem?_getD, List.getElem?_append_right (by rw [e]; exact Nat.le_refl _), e]
  rfl
def zzTm (i : Nat) : Term := Term.string (zzR (zzKS.getD i ((0, 0), 0)).1.1) (zzKS.getD i ((0, 0), 0)).1.2
def zzLe : List Nat := zzKc.map List.length
def zzBy : List (List Int32) := zzKc.map fun l => l.map fun n => Int32.ofNat n
def zzFl : List Jvm.Cond := flatC (Jvm.Cond.and given_1 narrow_1)
set_option maxRecDepth 100000 in
theorem zzSt1 : ∀ i, i < 13 → Jvm.Cond.exactly (zzTm i) "java/lang/String" ∈ zzFl := by decide +kernel
set_option maxRecDepth 100000 in
theorem zzSt2 : ∀ i, i < 13 → Jvm.Cond.eq (.field (zzTm i) "java/lang/String" "coder" "B") (.int 0) ∈ zzFl := by decide +kernel
set_option maxRecDepth 100000 in
theorem zzSt3 : ∀ i, i < 13 → Jvm.Cond.arrayOf (.field (zzTm i) "java/lang/String" "value" "[B") .byte ∈ zzFl := by decide +kernel
set_option maxRecDepth 100000 in
theorem zzSt4 : ∀ i, i < 13 → Jvm.Cond.eq (.length (.field (zzTm i) "java/lang/String" "value" "[B")) (.int (Int32.ofNat (zzLe.getD i 0))) ∈ zzFl := by decide +kernel
set_option maxRecDepth 100000 in
theorem zzSt5 : ∀ i, i < 13 → ∀ j, j < zzLe.getD i 0 → Jvm.Cond.eq (.elem (.field (zzTm i) "java/lang/String" "value" "[B") (.int (Int32.ofNat j))) (.int ((zzBy.getD i []).getD j 0)) ∈ zzFl := by decide +kernel
set_option maxRecDepth 100000 in
theorem zzSt6 : ∀ i, i < 13 → ∀ j, j < 13 → i ≠ j → (Jvm.Cond.not (Jvm.Cond.eq (zzTm i) (zzTm j)) ∈ zzFl ∨ Jvm.Cond.not (Jvm.Cond.eq (zzTm j) (zzTm i)) ∈ zzFl) := by decide +kernel
theorem zzSt7 : ∀ i, i < 13 → zzLe.getD i 0 < 2 ^ 31 := by decide +kernel
theorem zzSt8 : ∀ r ∈ zzKS, r.2 < 13 ∧ zzTm r.2 = Term.string (zzR r.1.1) r.1.2 ∧ Jvm.Cond.stringRef (zzR r.1.1) r.1.2 (zzKt.getD r.2 "") ∈ lw_tbl := by decide +kernel
theorem zzSt9 : ∀ c, c < 8 → Jvm.Cond.instantiable (zzR c) (zzN c) ∈ lw_tbl := by decide +kernel
theorem zzStN : ∀ r ∈ zzNest, Jvm.Cond.methodLinkNest (zzR r.1) r.2.1 (zzM r.2.2).1 RX6 ∈ lw_tbl := by decide +kernel
theorem zzStA : Jvm.Cond.arrayOver (.object RX4) ∈ lw_tbl ∧ Jvm.Cond.laysStatic "java/lang/String" "COMPACT_STRINGS" "Z" ∈ lw_tbl ∧ Jvm.Cond.initialized "java/lang/String" ∈ lw_tbl ∧ Jvm.Cond.laysStatic "jdk/internal/util/Preconditions" "SIOOBE_FORMATTER" "Ljava/util/function/BiFunction;" ∈ lw_tbl ∧ Jvm.Cond.initialized "jdk/internal/util/Preconditions" ∈ lw_tbl := by decide +kernel
theorem zzStB : Jvm.Cond.eq (.static "java/lang/String" "COMPACT_STRINGS" "Z") (.int 1) ∈ zzFl ∧ Jvm.Cond.isRef (.static "jdk/internal/util/Preconditions" "SIOOBE_FORMATTER" "Ljava/util/function/BiFunction;") ∈ zzFl := by decide +kernel
/-- the memory at the law's start: nothing but the script -/
def zzZ0 (L : Nat) (xs : Nat → Int32) : zzH := ([], fun _ _ => none, fun a _ => if a = 2000 then Int64.ofNat L else 0, fun a k => if a = 2000 then xs k else 0)
theorem zz_arr {s : State} {args : Array Value} {ty : FieldType} (hp : refKind ty = false) (h : (Jvm.Cond.arrayClass ty).before args s = true) (hra : ∀ c, va_RA s c ty = (s.vm.findClass ("[" ++ ty.toString) = some c)) : ∃ c, ArrOfT s c ty ∧ va_RA s c ty := by
  obtain ⟨c, k, comp, h1, h2, h3⟩ := Cond.arrayClass_spec h
  exact ⟨c, fun n z => ⟨fun k h => (by cases h), k, h2, comp, h3⟩, by rw [hra]; exact h1⟩
set_option maxHeartbeats 2000000 in
theorem zz_whole (l : Launch) {p : Program} {e : Env} {s : State} {m : MethodId} {below : List Frame} {meth : Method} {c : Code} {b L : Nat} {xs : Nat → Int32} (hL : L ≤ 3072) (C0 : lw_At p s m meth c b L xs)
    (hrun : ∃ n Zf, zzExec n 2000 zzLaw 0 [.ref 2000, zzU, zzU, zzU] [] (zzZ0 L xs) = some (some (.int 1), Zf) ∧ Zf.1.length ≤ 600000 ∧ zzSl Zf ≤ 7302250) : W p l e room_1 s m #[Value.ref b] below meth c s.heap [] 0 0 (lw_Z below #[Value.ref b] s) (entryFrame m ([Value.ref b] : List Value).toArray 4) := by
  obtain ⟨n, Zf, hrun, hcells, hslots⟩ := hrun
  obtain ⟨hx, hb, hr, hml, hown, hts, hX, hbl, hlocks, hgv⟩ := id C0
  have hs : ∀ q ∈ zzFl, q.before #[Value.ref b] s = true := flat_of_before _ hgv
  have hA0 : ∀ a : Nat, a < s.heap.size → ¬ (fun q : Nat => s.heap.size ≤ q) a := fun a h => Nat.not_le.mpr h
  obtain ⟨adK, adV, hE, hev⟩ := vk_Sof (args := #[Value.ref b]) (s := s) (N := 13) (tm := zzTm) (len := zzLe) (byt := zzBy) (A := fun q : Nat => s.heap.size ≤ q) zzSt7 (fun i hi => hs _ (zzSt1 i hi)) (fun i hi => hs _ (zzSt2 i hi)) (fun i hi => hs _ (zzSt3 i hi)) (fun i hi => hs _ (zzSt4 i hi)) (fun i hi j hj => hs _ (zzSt5 i hi j hj)) (fun i j hi hj hij => (zzSt6 i hi j hj hij).elim (fun h => Or.inl (hs _ h)) (fun h => Or.inr (hs _ h))) hA0
  obtain ⟨dq, hdq⟩ : ∃ dq : Nat → ClassId × (Nat → Nat), ∀ k, k < 8 → u_Kn s (zzR k) (zzTf k) (zzN k) (dq k).1 (dq k).2 := by
    have h : ∀ k : Nat, ∃ q : ClassId × (Nat → Nat), k < 8 → u_Kn s (zzR k) (zzTf k) (zzN k) q.1 q.2 := by
      intro k
      by_cases hk : k < 8
      · obtain ⟨cC, iS, h⟩ := u_known (C := zzR k) (T := zzTf k) (N := zzN k) (n := zzN k) hts (fun w hw => (zzUw k hk w hw).1) (hts _ (zzSt9 k hk))
        exact ⟨(cC, iS), fun _ => h⟩
      · exact ⟨(0, fun _ => 0), fun h => absurd h hk⟩
    exact ⟨fun k => Classical.choose (h k), fun k hk => Classical.choose_spec (h k) hk⟩
  have hZW : ∀ w ∈ ZW, w.before #[Value.ref b] s = true := fun w hw => hts w (List.mem_filter.mp hw).1
  obtain ⟨c0, a01, a02⟩ := zz_arr (ty := .int) rfl (hZW _ zzArI.1) (fun c => rfl)
  obtain ⟨c1, a11, a12⟩ := zz_arr (ty := .boolean) rfl (hZW _ zzArI.2) (fun c => rfl)
  obtain ⟨comp, c2, k2, b1, -, b2, b3, b4⟩ := Cond.arrayOver_spec (hts _ zzStA.1)
  have hK : va_K (fun k => (dq k).1, fun k => (dq k).2) vwCl (zzTys (fun k => if k = 0 then c0 else if k = 1 then c1 else c2)) s := by
    refine ⟨fun c q hq => ?_, fun k q hq => ?_⟩
    · have hc : c < 8 := (List.getElem?_eq_some_iff.mp hq).1
      have h1 := zzCl_ok c hc
      rw [hq] at h1
      cases h1
      exact hdq c hc
    · match k, hq with
      | 0, hq => cases hq; exact ⟨a01, a02⟩
      | 1, hq => cases hq; exact ⟨a11, a12⟩
      | 2, hq => cases hq; exact ⟨fun n z => ⟨fun k h => (by cases h), k2, b2, comp, b3⟩, k2, comp, b2, b3, b1, b4⟩
  generalize hσd : (fun a : Nat => if a < 1000 then s.heap.size + a else if a < 2000 then adK (a - 1000) else b) = σ
  have hσ : ∀ a, a < 1000 → σ a = s.heap.size + a := fun a h => by rw [← hσd]; exact if_pos h
  have hσs : ∀ i, i < 13 → σ (1000 + i) = adK i := fun i h => by
    rw [← hσd]
    dsimp only
    rw [if_neg (by omega), if_pos (by omega), Nat.add_sub_cancel_left]
  have hσb : σ 2000 = b := by rw [← hσd]; rfl
  have hLn : (Int64.ofNat L).toNatClampNeg = L := by
    rw [Int64.toNatClampNeg_ofNat_of_lt]
    omega
  have hfr : zzFr s.heap.size σ (fun k => (dq k).1) (fun k => (dq k).2) (fun k => if k = 0 then c0 else if k = 1 then c1 else c2) (Int64.ofNat L, xs) adV s s.heap := by
    refine ⟨hK, va_AO.of (hts _ zzStA.1), fun r hr => va_Nw.of rfl (hts _ (zzStN r hr)), Nat.le_refl _, ⟨?_, by rw [hσb]; exact hbl⟩, ?_, ?_, ?_, ?_⟩
    · rw [hσb]
      show va_X b (Int64.ofNat L).toNatClampNeg xs s s.heap
      rw [hLn]
      exact hX
    · intro o i k hk
      obtain ⟨g1, g2, g3⟩ := zzSt8 _ (zzGet_mem hk)
      dsimp only at g1 g2 g3
      refine vk_R.of (hts _ g3) ?_
      rw [hσs k g1, ← g2]
      exact hev k g1
    · refine ⟨fun i hi => ?_, fun i j hi hj h => ?_⟩
      · dsimp only
        rw [hσs i hi]
        exact hE.1 i hi
      · dsimp only at h
        rw [hσs i hi, hσs j hj] at h
        exact hE.2 i j hi hj h
    · exact va_Zof (hts _ zzStA.2.1) (hts _ zzStA.2.2.1) (va_eqt (hs _ zzStB.1)) hA0
    · exact va_Zqof (hts _ zzStA.2.2.2.1) (hts _ zzStA.2.2.2.2) (hs _ zzStB.2) hA0
  have hS : va_S (fun q : Nat => s.heap.size ≤ q) s.heap s.heap [] := va_S.rf
  have hrel : zzRel s.heap.size σ (fun k => (dq k).1) (fun k => (dq k).2) (fun k => if k = 0 then c0 else if k = 1 then c1 else c2) (Int64.ofNat L, xs) (zzZ0 L xs) s.heap := by
    refine ⟨Nat.zero_le _, fun k q h => by simp [zzWs, zzZ0] at h, fun j => rfl, rfl⟩
  have hl := lv_entry ([.ref b]) (n := 4) (Nat.le_of_ble_eq_true rfl)
  rw [lg_entry_eq]
  generalize (lg_sl ([.ref b]) ++ List.replicate (4 - (lg_sl ([.ref b])).length) Slot.unset).toArray = lsA at hl ⊢
  have hl : lv_has lsA 4 [(0, .ref b)] := hl
  have hl2 : lv_has lsA (zzM zzLaw).2.2.1 (zzAs σ 0 [.ref 2000, zzU, zzU, zzU]) := by
    rw [zzM_law]
    have e1 : zzAs σ 0 [.ref 2000, zzU, zzU, zzU] = [(0, .ref (σ 2000))] := rfl
    rw [e1, hσb]
    exact hl
  have hfin := zzBd_all (l := l) (adV := adV) (sx := (Int64.ofNat L, xs)) (dC := fun k => (dq k).1) (dI := fun k => (dq k).2) (ca := fun k => if k = 0 then c0 else if k = 1 then c1 else c2) hσ n 2000 zzLaw 0 [.ref 2000, zzU, zzU, zzU] [] (zzZ0 L xs) (some (.int 1)) Zf hrun p e room_1 s m #[Value.ref b] below meth c s.heap [] 0 0 0 0 (lw_Z below #[Value.ref b] s) lsA hx (by rw [zzM_law]; exact hb) (by rw [zzM_law]; exact hml) (by rw [zzM_law]; exact hown) hZW hfr (fun h => absurd h (by rw [zzM_law]; decide)) ⟨Nat.le_of_ble_eq_true rfl, Nat.le_of_ble_eq_true rfl⟩ hrel hS rfl rfl rfl
  refine hfin hcells hslots hl2 (by rw [zzM_law]; rfl) ?_
  intro pcf lsA' H' locs' cells' slots' il st' hd hret hrel' hS' hc' hs'
  rw [zzM_law] at hd hret
  have hst : il = (.ireturn, 1) ∧ st' = [.int 1] := by
    unfold zzRet at hret
    split at hret
    · next h => cases h
    · split at hret
      · cases hret; exact ⟨rfl, rfl⟩
      · cases hret
    · cases hret
    · cases hret
    · cases hret
    · cases hret
    · cases hret
  obtain ⟨rfl, rfl⟩ := hst
  refine va_forget (fun q hq => hS'.2.2 q hq) ?_
  refine W.widen (k := 600000) (n := 7302250) (by omega) (by omega) ?_
  exact lw_ret hx hb hr hlocks hd
end
section
/-! runs without a count: from here to there; the memory of made objects -/
def zzEv (d y pc : Nat) (ls st : List Value) (Z : zzH) (r : Option Value × zzH) : Prop := ∃ n, zzExec n d y pc ls st Z = some r
def zzOp (y pc : Nat) : Option (Instr × Nat) := zzLk (zzM y).2.2.2.2.2.2.2 pc
theorem ev_ret {d y pc : Nat} {ls st : List Value} {Z : zzH} {il : Instr × Nat} {v : Option Value} (h : zzOp y pc = some il) (hr : zzRet (zzM y).2.2.2.1 il st = some v) : zzEv d y pc ls st Z (v, Z) := by
  refine ⟨1, ?_⟩
  unfold zzOp at h
  unfold zzExec
  rw [h]
  dsimp only
  rw [hr]
theorem ev_step {d y pc pc' : Nat} {ls st ls' st' : List Value} {Z Z' : zzH} {il : Instr × Nat} {r : Option Value × zzH} (h : zzOp y pc = some il) (hr : zzRet (zzM y).2.2.2.1 il st = none) (hi : zzInv (zzM y).2.2.2.2.1 il st Z = none) (hs : zzStep (zzM y).2.2.2.2.1 ((zzM y).2.2.2.2.2.2.1 == 2) pc il ls st Z = some (pc', ls', st', Z')) (k : zzEv d y pc' ls' st' Z' r) : zzEv d y pc ls st Z r := by
  obtain ⟨n, hn⟩ := k
  refine ⟨n + 1, ?_⟩
  unfold zzOp at h
  unfold zzExec
  rw [h]
  dsimp only
  rw [hr]
  dsimp only
  rw [hi]
  dsimp only
  rw [hs]
  exact hn
theorem ev_call0 {d y pc y' : Nat} {ls st as rest : List Value} {Z Z' : zzH} {il : Instr × Nat} {v : Option Value} {r : Option Value × zzH} (h : zzOp y pc = some il) (hr : zzRet (zzM y).2.2.2.1 il st = none) (hi : zzInv (zzM y).2.2.2.2.1 il st Z = some (y', as, rest)) (hc : zzEv d y' 0 (zzIn y' as) [] Z (v, Z')) (k : zzEv (d + 1) y (pc + 3) ls (v.toList ++ rest) Z' r) : zzEv (d + 1) y pc ls st Z r := by
  obtain ⟨n1, h1⟩ := hc
  obtain ⟨n2, h2⟩ := k
  refine ⟨n1 + n2 + 1, ?_⟩
  unfold zzOp at h
  unfold zzExec
  rw [h]
  dsimp only
  rw [hr]
  dsimp only
  rw [hi]
  dsimp only
  rw [zzExec_mono n1 n2 _ _ _ _ _ _ _ h1]
  dsimp only
  rw [Nat.add_comm n1 n2]
  exact zzExec_mono n2 n1 _ _ _ _ _ _ _ h2
/-- a deeper room does no harm -/
theorem zzExec_deep : ∀ (n k d y pc : Nat) (ls st : List Value) (Z : zzH) (r : Option Value × zzH), zzExec n d y pc ls st Z = some r → zzExec n (d + k) y pc ls st Z = some r := by
  intro n
  induction n with
  | zero => intro k d y pc ls st Z r h; simp [zzExec] at h
  | succ n ih =>
    intro k d y pc ls st Z r h
    unfold zzExec at h ⊢
    cases h1 : zzLk (zzM y).2.2.2.2.2.2.2 pc with
    | none => rw [h1] at h; exact h
    | some il =>
      rw [h1] at h
      dsimp only at h ⊢
      cases h2 : zzRet (zzM y).2.2.2.1 il st with
      | some r => rw [h2] at h; exact h
      | none =>
        rw [h2] at h
        dsimp only at h ⊢
        cases h3 : zzInv (zzM y).2.2.2.2.1 il st Z with
        | some q =>
          obtain ⟨y', as, rest⟩ := q
          rw [h3] at h
          dsimp only at h ⊢
          cases d with
          | zero => cases h
          | succ d' =>
            rw [show d' + 1 + k = (d' + k) + 1 by omega]
            dsimp only at h ⊢
            cases h4 : zzExec n d' y' 0 (zzIn y' as) [] Z with
            | none => rw [h4] at h; cases h
            | some q =>
              obtain ⟨v, Z'⟩ := q
              rw [h4] at h
              rw [ih k _ _ _ _ _ _ _ h4]
              dsimp only at h ⊢
              rw [show (d' + k) + 1 = (d' + 1) + k by omega]
              exact ih k _ _ _ _ _ _ _ h
        | none =>
          rw [h3] at h
          dsimp only at h ⊢
          cases h4 : zzStep (zzM y).2.2.2.2.1 ((zzM y).2.2.2.2.2.2.1 == 2) pc il ls st Z with
          | none => rw [h4] at h; exact h
          | some q =>
            obtain ⟨pc', ls', st', Z'⟩ := q
            rw [h4] at h
            exact ih k _ _ _ _ _ _ _ h
theorem ev_deep {d d' y pc : Nat} {ls st : List Value} {Z : zzH} {r : Option Value × zzH} (hd : d ≤ d') (h : zzEv d y pc ls st Z r) : zzEv d' y pc ls st Z r := by
  obtain ⟨n, hn⟩ := h
  obtain ⟨k, rfl⟩ : ∃ k, d' = d + k := ⟨d' - d, by omega⟩
  exact ⟨n, zzExec_deep n k d y pc ls st Z r hn⟩
/-! the objects as they stand behind the two constructors -/
def zSH : List (Nat × Nat) := [(6, 9), (5, 5), (8, 960), (8, 18), (8, 160), (2, 7), (8, 160), (0, 11), (8, 8), (8, 8), (8, 8), (8, 8), (8, 24), (8, 6), (0, 11), (8, 8), (8, 8), (8, 8), (8, 8), (8, 24), (8, 6), (0, 11), (8, 8), (8, 8), (8, 8), (8, 8), (8, 24), (8, 6), (3, 7), (8, 480), (8, 8), (8, 8), (8, 8), (1, 6), (8, 6), (8, 6), (8, 6), (10, 4), (4, 3), (8, 40), (4, 3), (8, 40), (4, 3), (8, 40), (4, 3), (8, 40),
  (7, 52), (8, 960), (8, 6), (8, 160), (8, 8), (8, 8), (8, 8), (8, 8), (8, 24), (8, 8), (8, 8), (8, 8), (8, 8), (8, 8), (8, 8), (8, 8), (9, 4), (8, 4), (8, 4), (8, 160)]
def zCo (k a : Nat) : Option Nat := match k with
  | 0 => some 1
  | 5 => some (a + 1)
  | 6 => some (a + 2)
  | 7 => some (a + 3)
  | 8 => some (a + 4)
  | 9 => some (a + 5)
  | 10 => some (a + 6)
  | _ => none
def zMR (a k : Nat) : Option Nat := match a with
  | 0 => ([some 1, some 5, some 7, some 14, some 21, none, some 28, some 33, some 37] : List (Option Nat)).getD k none
  | 1 => ([some 2, some 3, some 4] : List (Option Nat)).getD k none
  | 5 => ([some 1, some 6] : List (Option Nat)).getD k none
  | 7 => zCo k 7
  | 14 => zCo k 14
  | 21 => zCo k 21
  | 28 => ([some 29, some 30, some 31, some 32] : List (Option Nat)).getD k none
  | 33 => ([some 34, some 35, some 36] : List (Option Nat)).getD k none
  | 37 => ([some 38, some 40, some 42, some 44] : List (Option Nat)).getD k none
  | 38 => ([none, none, some 39] : List (Option Nat)).getD k none
  | 40 => ([none, none, some 41] : List (Option Nat)).getD k none
  | 42 => ([none, none, some 43] : List (Option Nat)).getD k none
  | 44 => ([none, none, some 45] : List (Option Nat)).getD k none
  | 46 => ([none, some 47, some 48, none, none, some 49, none, none, none, some 50, some 51, some 52, some 53, some 54, none, none, none, none, none, none, none, none, none, none, none, none, none, none, none, none, some 55, some 56, some 57, none, none, none, none, none, none, none, some 58, some 59, some 60, some 61, none, none, none, none, some 62, some 63, some 64, some 65] : List (Option Nat)).getD k none
  | _ => none
/-- a cell's kind, and its size -/
def zKd (a : Nat) : Nat := (zSH.getD a (99, 0)).1
def zSz (a : Nat) : Nat := (zSH.getD a (99, 0)).2
abbrev zzJ : Type := (Nat → Nat → Int64) × (Nat → Nat → Int32)
def zK (J : zzJ) : zzH := (zSH, zMR, J.1, J.2)
def wI (J : zzJ) (a k : Nat) (v : Int32) : zzJ := (J.1, zzUp J.2 a k v)
def wL (J : zzJ) (a k : Nat) (v : Int64) : zzJ := (zzUp J.1 a k v, J.2)
def wC (J : zzJ) (a : Nat) (f : Nat → Int32) : zzJ := (J.1, zzRo J.2 a f)
theorem zKd_get {a k : Nat} (h : zKd a = k) (hk : k ≠ 99) : zSH[a]? = some (k, zSz a) := by
  unfold zKd at h
  unfold zSz
  rw [List.getD_eq_getElem?_getD] at h ⊢
  cases hz : zSH[a]? with
  | none => rw [hz] at h; exact absurd h.symm hk
  | some q => rw [hz] at h; obtain ⟨x, y⟩ := q; dsimp only [Option.getD_some] at h ⊢; rw [h]
section ZEV
variable {d y pc : Nat} {ls st : List Value} {Z : zzH} {J : zzJ} {r : Option Value × zzH}
theorem ev_push {il : Instr × Nat} {pc' : Nat} {v : Value} (h : zzOp y pc = some il) (hv : zzPush (zzM y).2.2.2.2.1 il = some v) (hr : zzRet (zzM y).2.2.2.1 il st = none) (hi : zzInv (zzM y).2.2.2.2.1 il st Z = none) (hp : pc + il.2 = pc') (k : zzEv d y pc' ls (v :: st) Z r) : zzEv d y pc ls st Z r :=
  ev_step h hr hi (by unfold zzStep; rw [hv]; dsimp only; rw [hp]) k
theorem ev_iconst {n : Int} {x : Int32} {pc' : Nat} (h : zzOp y pc = some (.iconst n, 1)) (hx : Int32.ofInt n = x) (hp : pc + 1 = pc') (k : zzEv d y pc' ls (.int x :: st) Z r) : zzEv d y pc ls st Z r := ev_push h (by rw [← hx]; rfl) rfl rfl hp k
theorem ev_bipush {n : Int} {x : Int32} {pc' : Nat} (h : zzOp y pc = some (.bipush n, 2)) (hx : (Int8.ofInt n).toInt32 = x) (hp : pc + 2 = pc') (k : zzEv d y pc' ls (.int x :: st) Z r) : zzEv d y pc ls st Z r := ev_push h (by rw [← hx]; rfl) rfl rfl hp k
theorem ev_sipush {n : Int} {x : Int32} {pc' : Nat} (h : zzOp y pc = some (.sipush n, 3)) (hx : (Int16.ofInt n).toInt32 = x) (hp : pc + 3 = pc') (k : zzEv d y pc' ls (.int x :: st) Z r) : zzEv d y pc ls st Z r := ev_push h (by rw [← hx]; rfl) rfl rfl hp k
theorem ev_lconst {n : Fin 2} {x : Int64} {pc' : Nat} (h : zzOp y pc = some (.lconst n, 1)) (hx : Int64.ofNat n.val = x) (hp : pc + 1 = pc') (k : zzEv d y pc' ls (.long x :: st) Z r) : zzEv d y pc ls st Z r := ev_push h (by rw [← hx]; rfl) rfl rfl hp k
theorem ev_null {pc' : Nat} (h : zzOp y pc = some (.aconst_null, 1)) (hp : pc + 1 = pc') (k : zzEv d y pc' ls (.null :: st) Z r) : zzEv d y pc ls st Z r := ev_push h rfl rfl rfl hp k
theorem ev_ldcI {i pc' : Nat} {x : Int32} (h : zzOp y pc = some (.ldc i, 2)) (h0 : zzGet zzKS (zzM y).2.2.2.2.1 i = none) (hx : zzGet zzKI (zzM y).2.2.2.2.1 i = some x) (hp : pc + 2 = pc') (k : zzEv d y pc' ls (.int x :: st) Z r) : zzEv d y pc ls st Z r := ev_push h (by simp only [zzPush, h0, hx, Option.map_some]) rfl rfl hp k
theorem ev_ldcS {i j pc' : Nat} (h : zzOp y pc = some (.ldc i, 2)) (hx : zzGet zzKS (zzM y).2.2.2.2.1 i = some j) (hp : pc + 2 = pc') (k : zzEv d y pc' ls (.ref (1000 + j) :: st) Z r) : zzEv d y pc ls st Z r := ev_push h (by simp only [zzPush, hx]) rfl rfl hp k
theorem ev_ldcw {i pc' : Nat} {x : Int32} (h : zzOp y pc = some (.ldc_w i, 3)) (hx : zzGet zzKI (zzM y).2.2.2.2.1 i = some x) (hp : pc + 3 = pc') (k : zzEv d y pc' ls (.int x :: st) Z r) : zzEv d y pc ls st Z r := ev_push h (by simp only [zzPush, hx, Option.map_some]) rfl rfl hp k
theorem ev_ldc2 {i pc' : Nat} {x : Int64} (h : zzOp y pc = some (.ldc2_w i, 3)) (hx : zzGet zzKL (zzM y).2.2.2.2.1 i = some x) (hp : pc + 3 = pc') (k : zzEv d y pc' ls (.long x :: st) Z r) : zzEv d y pc ls st Z r := ev_push h (by simp only [zzPush, hx, Option.map_some]) rfl rfl hp k
/-- an instruction that the rest of zzStep computes by itself -/
theorem ev_s {il : Instr × Nat} {pc' : Nat} {ls' st' : List Value} {Z' : zzH} (h : zzOp y pc = some il) (hr : zzRet (zzM y).2.2.2.1 il st = none) (hi : zzInv (zzM y).2.2.2.2.1 il st Z = none) (hs : zzStep (zzM y).2.2.2.2.1 ((zzM y).2.2.2.2.2.2.1 == 2) pc il ls st Z = some (pc', ls', st', Z')) (k : zzEv d y pc' ls' st' Z' r) : zzEv d y pc ls st Z r := ev_step h hr hi hs k
theorem st_ld {own : Nat} {ini : Bool} {il : Instr × Nat} {i t pc' : Nat} {v : Value} (h0 : zzPush own il = none) (h1 : zzLd il = some (i, t)) (hl : ls[i]? = some v) (ht : zzIs t v = true) (hp : pc + il.2 = pc') : zzStep own ini pc il ls st Z = some (pc', ls, v :: st, Z) := by
  unfold zzStep; rw [h0]; dsimp only; rw [h1]; dsimp only; rw [hl]; dsimp only; rw [if_pos ht, hp]
theorem st_sd {own : Nat} {ini : Bool} {il : Instr × Nat} {i t pc' : Nat} {v : Value} {ls' : List Value} (h0 : zzPush own il = none) (h1 : zzLd il = none) (h2 : zzSd il = some (i, t)) (ht : zzIs t v = true) (hs : zzSet ls i t v = some ls') (hp : pc + il.2 = pc') : zzStep own ini pc il ls (v :: st) Z = some (pc', ls', st, Z) := by
  unfold zzStep; rw [h0]; dsimp only; rw [h1]; dsimp only; rw [h2]; dsimp only; rw [if_pos ht, hs, hp]; rfl
theorem st_ar {own : Nat} {ini : Bool} {il : Instr × Nat} {q : zzS} (h0 : zzPush own il = none) (h1 : zzLd il = none) (h2 : zzSd il = none) (h3 : zzAr pc il ls st Z = some q) : zzStep own ini pc il ls st Z = some q := by
  unfold zzStep; rw [h0]; dsimp only; rw [h1]; dsimp only; rw [h2]; dsimp only; rw [h3]
theorem st_flow {own : Nat} {ini : Bool} {il : Instr × Nat} {q : zzS} (h0 : zzPush own il = none) (h1 : zzLd il = none) (h2 : zzSd il = none) (h3 : zzAr pc il ls st Z = none) (h4 : zzFlow pc il ls st Z = some q) : zzStep own ini pc il ls st Z = some q := by
  unfold zzStep; rw [h0]; dsimp only; rw [h1]; dsimp only; rw [h2]; dsimp only; rw [h3]; dsimp only; rw [h4]
theorem st_mem {own : Nat} {ini : Bool} {il : Instr × Nat} {q : zzS} (h0 : zzPush own il = none) (h1 : zzLd il = none) (h2 : zzSd il = none) (h3 : zzAr pc il ls st Z = none) (h4 : zzFlow pc il ls st Z = none) (h5 : zzMem own ini pc il ls st Z = some q) : zzStep own ini pc il ls st Z = some q := by
  unfold zzStep; rw [h0]; dsimp only; rw [h1]; dsimp only; rw [h2]; dsimp only; rw [h3]; dsimp only; rw [h4]; dsimp only; rw [h5]
theorem st_prim {own : Nat} {ini : Bool} {il : Instr × Nat} {q : zzS} (h0 : zzPush own il = none) (h1 : zzLd il = none) (h2 : zzSd il = none) (h3 : zzAr pc il ls st Z = none) (h4 : zzFlow pc il ls st Z = none) (h5 : zzMem own ini pc il ls st Z = none) (h6 : zzPrim own pc il ls st Z = some q) : zzStep own ini pc il ls st Z = some q := by
  unfold zzStep; rw [h0]; dsimp only; rw [h1]; dsimp only; rw [h2]; dsimp only; rw [h3]; dsimp only; rw [h4]; dsimp only; rw [h5]; exact h6
theorem zz_is3 (o : Option Nat) : zzIs 3 (va_rf o) = true := by cases o <;> rfl
theorem ev_ld {il : Instr × Nat} {i t pc' : Nat} {v : Value} (h : zzOp y pc = some il) (h0 : zzPush (zzM y).2.2.2.2.1 il = none) (h1 : zzLd il = some (i, t)) (hr : zzRet (zzM y).2.2.2.1 il st = none) (hi : zzInv (zzM y).2.2.2.2.1 il st Z = none) (hl : ls[i]? = some v) (hv : zzIs t v = true) (hp : pc + il.2 = pc') (k : zzEv d y pc' ls (v :: st) Z r) : zzEv d y pc ls st Z r := ev_step h hr hi (st_ld h0 h1 hl hv hp) k
theorem ev_sd {il : Instr × Nat} {i t pc' : Nat} {v : Value} {ls' : List Value} (h : zzOp y pc = some il) (h0 : zzPush (zzM y).2.2.2.2.1 il = none) (h1 : zzLd il = none) (h2 : zzSd il = some (i, t)) (hr : zzRet (zzM y).2.2.2.1 il (v :: st) = none) (hi : zzInv (zzM y).2.2.2.2.1 il (v :: st) Z = none) (hs : zzSet ls i t v = some ls') (hv : zzIs t v = true) (hp : pc + il.2 = pc') (k : zzEv d y pc' ls' st Z r) : zzEv d y pc ls (v :: st) Z r := ev_step h hr hi (st_sd h0 h1 h2 hv hs hp) k
/-- loads and stores, a row each: the place, what is there, where it goes on -/
theorem ev_iload {i pc' : Nat} {x : Int32} (h : zzOp y pc = some (.iload i, 2)) (hl : ls[i]? = some (.int x)) (hp : pc + 2 = pc') (k : zzEv d y pc' ls (.int x :: st) Z r) : zzEv d y pc ls st Z r := ev_ld h rfl rfl rfl rfl hl rfl hp k
theorem ev_iload_n {n : Fin 4} {i pc' : Nat} {x : Int32} (h : zzOp y pc = some (.iload_n n, 1)) (hn : n.val = i) (hl : ls[i]? = some (.int x)) (hp : pc + 1 = pc') (k : zzEv d y pc' ls (.int x :: st) Z r) : zzEv d y pc ls st Z r := ev_ld h rfl rfl rfl rfl (hn ▸ hl) rfl hp k
theorem ev_lload {i pc' : Nat} {x : Int64} (h : zzOp y pc = some (.lload i, 2)) (hl : ls[i]? = some (.long x)) (hp : pc + 2 = pc') (k : zzEv d y pc' ls (.long x :: st) Z r) : zzEv d y pc ls st Z r := ev_ld h rfl rfl rfl rfl hl rfl hp k
theorem ev_lload_n {n : Fin 4} {i pc' : Nat} {x : Int64} (h : zzOp y pc = some (.lload_n n, 1)) (hn : n.val = i) (hl : ls[i]? = some (.long x)) (hp : pc + 1 = pc') (k : zzEv d y pc' ls (.long x :: st) Z r) : zzEv d y pc ls st Z r := ev_ld h rfl rfl rfl rfl (hn ▸ hl) rfl hp k
theorem ev_aload {i pc' : Nat} {v : Value} (h : zzOp y pc = some (.aload i, 2)) (hl : ls[i]? = some v) (hv : zzIs 3 v = true) (hp : pc + 2 = pc') (k : zzEv d y pc' ls (v :: st) Z r) : zzEv d y pc ls st Z r := ev_ld h rfl rfl rfl rfl hl hv hp k
theorem ev_aload_n {n : Fin 4} {i pc' : Nat} {v : Value} (h : zzOp y pc = some (.aload_n n, 1)) (hn : n.val = i) (hl : ls[i]? = some v) (hv : zzIs 3 v = true) (hp : pc + 1 = pc') (k : zzEv d y pc' ls (v :: st) Z r) : zzEv d y pc ls st Z r := ev_ld h rfl rfl rfl rfl (hn ▸ hl) hv hp k
theorem ev_istore {i pc' : Nat} {x : Int32} {ls' : List Value} (h : zzOp y pc = some (.istore i, 2)) (hs : zzSet ls i 1 (.int x) = some ls') (hp : pc + 2 = pc') (k : zzEv d y pc' ls' st Z r) : zzEv d y pc ls (.int x :: st) Z r := ev_sd h rfl rfl rfl rfl rfl hs rfl hp k
theorem ev_istore_n {n : Fin 4} {i pc' : Nat} {x : Int32} {ls' : List Value} (h : zzOp y pc = some (.istore_n n, 1)) (hn : n.val = i) (hs : zzSet ls i 1 (.int x) = some ls') (hp : pc + 1 = pc') (k : zzEv d y pc' ls' st Z r) : zzEv d y pc ls (.int x :: st) Z r := ev_sd h rfl rfl rfl rfl rfl (hn ▸ hs) rfl hp k
theorem ev_lstore {i pc' : Nat} {x : Int64} {ls' : List Value} (h : zzOp y pc = some (.lstore i, 2)) (hs : zzSet ls i 2 (.long x) = some ls') (hp : pc + 2 = pc') (k : zzEv d y pc' ls' st Z r) : zzEv d y pc ls (.long x :: st) Z r := ev_sd h rfl rfl rfl rfl rfl hs rfl hp k
theorem ev_lstore_n {n : Fin 4} {i pc' : Nat} {x : Int64} {ls' : List Value} (h : zzOp y pc = some (.lstore_n n, 1)) (hn : n.val = i) (hs : zzSet ls i 2 (.long x) = some ls') (hp : pc + 1 = pc') (k : zzEv d y pc' ls' st Z r) : zzEv d y pc ls (.long x :: st) Z r := ev_sd h rfl rfl rfl rfl rfl (hn ▸ hs) rfl hp k
theorem ev_astore {i pc' : Nat} {v : Value} {ls' : List Value} (h : zzOp y pc = some (.astore i, 2)) (hv : zzIs 3 v = true) (hs : zzSet ls i 3 v = some ls') (hp : pc + 2 = pc') (k : zzEv d y pc' ls' st Z r) : zzEv d y pc ls (v :: st) Z r := ev_sd h rfl rfl rfl (by cases v <;> rfl) rfl hs hv hp k
theorem ev_astore_n {n : Fin 4} {i pc' : Nat} {v : Value} {ls' : List Value} (h : zzOp y pc = some (.astore_n n, 1)) (hn : n.val = i) (hv : zzIs 3 v = true) (hs : zzSet ls i 3 v = some ls') (hp : pc + 1 = pc') (k : zzEv d y pc' ls' st Z r) : zzEv d y pc ls (v :: st) Z r := ev_sd h rfl rfl rfl (by cases v <;> rfl) rfl (hn ▸ hs) hv hp k
/-- arithmetic -/
theorem ev_ar {il : Instr × Nat} {pc' : Nat} {st' : List Value} (h : zzOp y pc = some il) (h0 : zzPush (zzM y).2.2.2.2.1 il = none) (h1 : zzLd il = none) (h2 : zzSd il = none) (hr : zzRet (zzM y).2.2.2.1 il st = none) (hi : zzInv (zzM y).2.2.2.2.1 il st Z = none) (h3 : zzAr pc il ls st Z = some (pc', ls, st', Z)) (k : zzEv d y pc' ls st' Z r) : zzEv d y pc ls st Z r := ev_step h hr hi (st_ar h0 h1 h2 h3) k
theorem ev_iadd {a b : Int32} {pc' : Nat} (h : zzOp y pc = some (.iadd, 1)) (hp : pc + 1 = pc') (k : zzEv d y pc' ls (.int (a + b) :: st) Z r) : zzEv d y pc ls (.int b :: .int a :: st) Z r := ev_ar h rfl rfl rfl rfl rfl rfl (hp ▸ k)
theorem ev_isub {a b : Int32} {pc' : Nat} (h : zzOp y pc = some (.isub, 1)) (hp : pc + 1 = pc') (k : zzEv d y pc' ls (.int (a - b) :: st) Z r) : zzEv d y pc ls (.int b :: .int a :: st) Z r := ev_ar h rfl rfl rfl rfl rfl rfl (hp ▸ k)
theorem ev_imul {a b : Int32} {pc' : Nat} (h : zzOp y pc = some (.imul, 1)) (hp : pc + 1 = pc') (k : zzEv d y pc' ls (.int (a * b) :: st) Z r) : zzEv d y pc ls (.int b :: .int a :: st) Z r := ev_ar h rfl rfl rfl rfl rfl rfl (hp ▸ k)
theorem ev_iand {a b : Int32} {pc' : Nat} (h : zzOp y pc = some (.iand, 1)) (hp : pc + 1 = pc') (k : zzEv d y pc' ls (.int (a &&& b) :: st) Z r) : zzEv d y pc ls (.int b :: .int a :: st) Z r := ev_ar h rfl rfl rfl rfl rfl rfl (hp ▸ k)
theorem ev_ior {a b : Int32} {pc' : Nat} (h : zzOp y pc = some (.ior, 1)) (hp : pc + 1 = pc') (k : zzEv d y pc' ls (.int (a ||| b) :: st) Z r) : zzEv d y pc ls (.int b :: .int a :: st) Z r := ev_ar h rfl rfl rfl rfl rfl rfl (hp ▸ k)
theorem ev_ishl {a b : Int32} {pc' : Nat} (h : zzOp y pc = some (.ishl, 1)) (hp : pc + 1 = pc') (k : zzEv d y pc' ls (.int (a <<< (b &&& 31)) :: st) Z r) : zzEv d y pc ls (.int b :: .int a :: st) Z r := ev_ar h rfl rfl rfl rfl rfl rfl (hp ▸ k)
theorem ev_ishr {a b : Int32} {pc' : Nat} (h : zzOp y pc = some (.ishr, 1)) (hp : pc + 1 = pc') (k : zzEv d y pc' ls (.int (a >>> (b &&& 31)) :: st) Z r) : zzEv d y pc ls (.int b :: .int a :: st) Z r := ev_ar h rfl rfl rfl rfl rfl rfl (hp ▸ k)
def zUsh (x y : Int32) : Int32 := (x.toUInt32 >>> (y.toUInt32 &&& Int32.toUInt32 31)).toInt32
theorem ev_iushr {a b : Int32} {pc' : Nat} (h : zzOp y pc = some (.iushr, 1)) (hp : pc + 1 = pc') (k : zzEv d y pc' ls (.int (zUsh a b) :: st) Z r) : zzEv d y pc ls (.int b :: .int a :: st) Z r := ev_ar h rfl rfl rfl rfl rfl rfl (hp ▸ k)
def zRem (x y : Int32) : Int32 := x - x / y * y
def zRemL (x y : Int64) : Int64 := x - x / y * y
theorem ev_idiv {a b : Int32} {pc' : Nat} (h : zzOp y pc = some (.idiv, 1)) (hb : ¬ b = 0) (hp : pc + 1 = pc') (k : zzEv d y pc' ls (.int (a / b) :: st) Z r) : zzEv d y pc ls (.int b :: .int a :: st) Z r := ev_ar h rfl rfl rfl rfl rfl (if_neg hb) (hp ▸ k)
theorem ev_irem {a b : Int32} {pc' : Nat} (h : zzOp y pc = some (.irem, 1)) (hb : ¬ b = 0) (hp : pc + 1 = pc') (k : zzEv d y pc' ls (.int (zRem a b) :: st) Z r) : zzEv d y pc ls (.int b :: .int a :: st) Z r := ev_ar h rfl rfl rfl rfl rfl (if_neg hb) (hp ▸ k)
theorem zz_un {il : Instr × Nat} {f : Int32 → Int32} {b : Int32} (h0 : zzBi il = none) (h1 : zzDi il = none) (hf : zzUn il = some f) : zzAr pc il ls (.int b :: st) Z = some (pc + 1, ls, .int (f b) :: st, Z) := by
  unfold zzAr
  split
  · next y x st' e => cases e; rw [h0, h1, hf]
  · next y st' _ e => cases e; rw [hf]
  · next e => cases e
  · next h _ => exact absurd rfl (h _ _)
theorem ev_ineg {b : Int32} {pc' : Nat} (h : zzOp y pc = some (.ineg, 1)) (hp : pc + 1 = pc') (k : zzEv d y pc' ls (.int (-b) :: st) Z r) : zzEv d y pc ls (.int b :: st) Z r := ev_ar h rfl rfl rfl rfl rfl (zz_un rfl rfl rfl) (hp ▸ k)
theorem ev_i2b {b : Int32} {pc' : Nat} (h : zzOp y pc = some (.i2b, 1)) (hp : pc + 1 = pc') (k : zzEv d y pc' ls (.int b.toInt8.toInt32 :: st) Z r) : zzEv d y pc ls (.int b :: st) Z r := ev_ar h rfl rfl rfl rfl rfl (zz_un rfl rfl rfl) (hp ▸ k)
theorem ev_i2s {b : Int32} {pc' : Nat} (h : zzOp y pc = some (.i2s, 1)) (hp : pc + 1 = pc') (k : zzEv d y pc' ls (.int b.toInt16.toInt32 :: st) Z r) : zzEv d y pc ls (.int b :: st) Z r := ev_ar h rfl rfl rfl rfl rfl (zz_un rfl rfl rfl) (hp ▸ k)
theorem ev_ladd {a b : Int64} {pc' : Nat} (h : zzOp y pc = some (.ladd, 1)) (hp : pc + 1 = pc') (k : zzEv d y pc' ls (.long (a + b) :: st) Z r) : zzEv d y pc ls (.long b :: .long a :: st) Z r := ev_ar h rfl rfl rfl rfl rfl rfl (hp ▸ k)
theorem ev_lsub {a b : Int64} {pc' : Nat} (h : zzOp y pc = some (.lsub, 1)) (hp : pc + 1 = pc') (k : zzEv d y pc' ls (.long (a - b) :: st) Z r) : zzEv d y pc ls (.long b :: .long a :: st) Z r := ev_ar h rfl rfl rfl rfl rfl rfl (hp ▸ k)
theorem ev_lmul {a b : Int64} {pc' : Nat} (h : zzOp y pc = some (.lmul, 1)) (hp : pc + 1 = pc') (k : zzEv d y pc' ls (.long (a * b) :: st) Z r) : zzEv d y pc ls (.long b :: .long a :: st) Z r := ev_ar h rfl rfl rfl rfl rfl rfl (hp ▸ k)
theorem ev_ldiv {a b : Int64} {pc' : Nat} (h : zzOp y pc = some (.ldiv, 1)) (hb : ¬ b = 0) (hp : pc + 1 = pc') (k : zzEv d y pc' ls (.long (a / b) :: st) Z r) : zzEv d y pc ls (.long b :: .long a :: st) Z r := ev_ar h rfl rfl rfl rfl rfl (if_neg hb) (hp ▸ k)
theorem ev_lrem {a b : Int64} {pc' : Nat} (h : zzOp y pc = some (.lrem, 1)) (hb : ¬ b = 0) (hp : pc + 1 = pc') (k : zzEv d y pc' ls (.long (zRemL a b) :: st) Z r) : zzEv d y pc ls (.long b :: .long a :: st) Z r := ev_ar h rfl rfl rfl rfl rfl (if_neg hb) (hp ▸ k)
end ZEV
end
section
/-! branches, fields, rows, calls -/
section ZEW
variable {d y pc : Nat} {ls st : List Value} {Z : zzH} {J : zzJ} {r : Option Value × zzH}
theorem ar_none {il : Instr × Nat} (h1 : zzBi il = none) (h2 : zzDi il = none) (h3 : zzUn il = none) (h4 : zzBl il = none) (h5 : zzDl il = none) : zzAr pc il ls st Z = none := by
  unfold zzAr
  split
  · rw [h1, h2, h3]
  · rw [h3]
  · rw [h4, h5]
  · rfl
theorem ev_fl {il : Instr × Nat} {pc' : Nat} {ls' st' : List Value} (h : zzOp y pc = some il) (h0 : zzPush (zzM y).2.2.2.2.1 il = none) (h1 : zzLd il = none) (h2 : zzSd il = none) (hr : zzRet (zzM y).2.2.2.1 il st = none) (hi : zzInv (zzM y).2.2.2.2.1 il st Z = none) (b1 : zzBi il = none) (b2 : zzDi il = none) (b3 : zzUn il = none) (b4 : zzBl il = none) (b5 : zzDl il = none) (h3 : zzFlow pc il ls st Z = some (pc', ls', st', Z)) (k : zzEv d y pc' ls' st' Z r) : zzEv d y pc ls st Z r := ev_step h hr hi (st_flow h0 h1 h2 (ar_none b1 b2 b3 b4 b5) h3) k
theorem ev_goto {off : Int} {t : Nat} (h : zzOp y pc = some (.goto off, 3)) (ht : zzTg pc off = some t) (k : zzEv d y t ls st Z r) : zzEv d y pc ls st Z r := ev_fl h rfl rfl rfl rfl rfl rfl rfl rfl rfl rfl (by simp only [zzFlow, ht, Option.map_some]) k
theorem ev_cmp_t {cd : Jvm.ClassFile.Cond} {off : Int} {t : Nat} {a b : Int32} (h : zzOp y pc = some (.if_icmp cd off, 3)) (ht : zzTg pc off = some t) (hc : zzCm cd a b = true) (k : zzEv d y t ls st Z r) : zzEv d y pc ls (.int b :: .int a :: st) Z r := ev_fl h rfl rfl rfl rfl rfl rfl rfl rfl rfl rfl (by simp only [zzFlow, ht, hc, if_true]) k
theorem ev_cmp_f {cd : Jvm.ClassFile.Cond} {off : Int} {t pc' : Nat} {a b : Int32} (h : zzOp y pc = some (.if_icmp cd off, 3)) (ht : zzTg pc off = some t) (hc : ¬ zzCm cd a b = true) (hp : pc + 3 = pc') (k : zzEv d y pc' ls st Z r) : zzEv d y pc ls (.int b :: .int a :: st) Z r := ev_fl h rfl rfl rfl rfl rfl rfl rfl rfl rfl rfl (by simp only [zzFlow, ht, if_neg hc, hp]) k
theorem ev_if_t {cd : Jvm.ClassFile.Cond} {off : Int} {t : Nat} {a : Int32} (h : zzOp y pc = some (.ifCond cd off, 3)) (ht : zzTg pc off = some t) (hc : zzCm cd a 0 = true) (k : zzEv d y t ls st Z r) : zzEv d y pc ls (.int a :: st) Z r := ev_fl h rfl rfl rfl rfl rfl rfl rfl rfl rfl rfl (by simp only [zzFlow, ht, hc, if_true]) k
theorem ev_if_f {cd : Jvm.ClassFile.Cond} {off : Int} {t pc' : Nat} {a : Int32} (h : zzOp y pc = some (.ifCond cd off, 3)) (ht : zzTg pc off = some t) (hc : ¬ zzCm cd a 0 = true) (hp : pc + 3 = pc') (k : zzEv d y pc' ls st Z r) : zzEv d y pc ls (.int a :: st) Z r := ev_fl h rfl rfl rfl rfl rfl rfl rfl rfl rfl rfl (by simp only [zzFlow, ht, if_neg hc, hp]) k
theorem zcm_eq {a b : Int32} (h : a = b) : zzCm .eq a b = true := decide_eq_true h
theorem zcm_neq {a b : Int32} (h : ¬ a = b) : ¬ zzCm .eq a b = true := fun z => h (of_decide_eq_true z)
theorem zcm_ne {a b : Int32} (h : ¬ a = b) : zzCm .ne a b = true := decide_eq_true h
theorem zcm_nne {a b : Int32} (h : a = b) : ¬ zzCm .ne a b = true := fun z => (of_decide_eq_true z : ¬ a = b) h
theorem zcm_lt {a b : Int32} (h : a < b) : zzCm .lt a b = true := decide_eq_true h
theorem zcm_nlt {a b : Int32} (h : ¬ a < b) : ¬ zzCm .lt a b = true := fun z => h (of_decide_eq_true z)
theorem zcm_ge {a b : Int32} (h : ¬ a < b) : zzCm .ge a b = true := decide_eq_true (Int32.not_lt.mp h)
theorem zcm_nge {a b : Int32} (h : a < b) : ¬ zzCm .ge a b = true := fun z => Int32.not_le.mpr h (of_decide_eq_true z)
theorem zcm_gt {a b : Int32} (h : b < a) : zzCm .gt a b = true := decide_eq_true h
theorem zcm_ngt {a b : Int32} (h : ¬ b < a) : ¬ zzCm .gt a b = true := fun z => h (of_decide_eq_true z)
theorem zcm_le {a b : Int32} (h : ¬ b < a) : zzCm .le a b = true := decide_eq_true (Int32.not_lt.mp h)
theorem zcm_nle {a b : Int32} (h : b < a) : ¬ zzCm .le a b = true := fun z => Int32.not_le.mpr h (of_decide_eq_true z)
theorem ev_ifnull_r {off : Int} {t a pc' : Nat} (h : zzOp y pc = some (.ifnull off, 3)) (ht : zzTg pc off = some t) (hp : pc + 3 = pc') (k : zzEv d y pc' ls st Z r) : zzEv d y pc ls (.ref a :: st) Z r := ev_fl h rfl rfl rfl rfl rfl rfl rfl rfl rfl rfl (by simp only [zzFlow, ht, hp]) k
theorem ev_ifnull_n {off : Int} {t : Nat} (h : zzOp y pc = some (.ifnull off, 3)) (ht : zzTg pc off = some t) (k : zzEv d y t ls st Z r) : zzEv d y pc ls (.null :: st) Z r := ev_fl h rfl rfl rfl rfl rfl rfl rfl rfl rfl rfl (by simp only [zzFlow, ht]) k
theorem ev_ifnn_r {off : Int} {t a : Nat} (h : zzOp y pc = some (.ifnonnull off, 3)) (ht : zzTg pc off = some t) (k : zzEv d y t ls st Z r) : zzEv d y pc ls (.ref a :: st) Z r := ev_fl h rfl rfl rfl rfl rfl rfl rfl rfl rfl rfl (by simp only [zzFlow, ht]) k
theorem ev_ifnn_n {off : Int} {t pc' : Nat} (h : zzOp y pc = some (.ifnonnull off, 3)) (ht : zzTg pc off = some t) (hp : pc + 3 = pc') (k : zzEv d y pc' ls st Z r) : zzEv d y pc ls (.null :: st) Z r := ev_fl h rfl rfl rfl rfl rfl rfl rfl rfl rfl rfl (by simp only [zzFlow, ht, hp]) k
/-- where a switch goes: places with their target, else the other one -/
def zSw (x : Int32) (ts : List (Int32 × Nat)) (df : Nat) : Nat := match ts with
  | [] => df
  | q :: l => if x = q.1 then q.2 else zSw x l df
theorem ev_table {df lo hi : Int} {offs : Array Int} {len t : Nat} {x : Int32} (h : zzOp y pc = some (.tableswitch df lo hi offs, len)) (ht : zzFlow pc (.tableswitch df lo hi offs, len) ls (.int x :: st) Z = some (t, ls, st, Z)) (k : zzEv d y t ls st Z r) : zzEv d y pc ls (.int x :: st) Z r := ev_fl h rfl rfl rfl rfl rfl rfl rfl rfl rfl rfl ht k
theorem ev_lookup {df : Int} {ps : Array (Int × Int)} {len t : Nat} {x : Int32} (h : zzOp y pc = some (.lookupswitch df ps, len)) (ht : zzFlow pc (.lookupswitch df ps, len) ls (.int x :: st) Z = some (t, ls, st, Z)) (k : zzEv d y t ls st Z r) : zzEv d y pc ls (.int x :: st) Z r := ev_fl h rfl rfl rfl rfl rfl rfl rfl rfl rfl rfl ht k
theorem ev_iinc {i pc' : Nat} {n : Int} {x v : Int32} {ls' : List Value} (h : zzOp y pc = some (.iinc i n, 3)) (hl : ls[i]? = some (.int x)) (hn : Int32.ofInt n = v) (hs : zzSet ls i 1 (.int (x + v)) = some ls') (hp : pc + 3 = pc') (k : zzEv d y pc' ls' st Z r) : zzEv d y pc ls st Z r := ev_fl h rfl rfl rfl rfl rfl rfl rfl rfl rfl rfl (by subst hn; simp only [zzFlow, hl, hs, Option.map_some, hp]) k
theorem ev_dup {v : Value} {pc' : Nat} (h : zzOp y pc = some (.dup, 1)) (hv : v.category = 1) (hp : pc + 1 = pc') (k : zzEv d y pc' ls (v :: v :: st) Z r) : zzEv d y pc ls (v :: st) Z r := ev_fl h rfl rfl rfl (by cases v <;> rfl) rfl rfl rfl rfl rfl rfl (by simp only [zzFlow, hv, if_true, hp]) k
theorem ev_pop {v : Value} {pc' : Nat} (h : zzOp y pc = some (.pop, 1)) (hv : v.category = 1) (hp : pc + 1 = pc') (k : zzEv d y pc' ls st Z r) : zzEv d y pc ls (v :: st) Z r := ev_fl h rfl rfl rfl (by cases v <;> rfl) rfl rfl rfl rfl rfl rfl (by simp only [zzFlow, hv, if_true, hp]) k
theorem ev_dup2 {v w : Value} {pc' : Nat} (h : zzOp y pc = some (.dup2, 1)) (hv : v.category = 1) (hw : w.category = 1) (hp : pc + 1 = pc') (k : zzEv d y pc' ls (v :: w :: v :: w :: st) Z r) : zzEv d y pc ls (v :: w :: st) Z r := ev_fl h rfl rfl rfl (by cases v <;> rfl) rfl rfl rfl rfl rfl rfl (by simp only [zzFlow, hv, hw, and_self, if_true, hp]) k
theorem ev_i2l {x : Int32} {pc' : Nat} (h : zzOp y pc = some (.i2l, 1)) (hp : pc + 1 = pc') (k : zzEv d y pc' ls (.long x.toInt64 :: st) Z r) : zzEv d y pc ls (.int x :: st) Z r := ev_fl h rfl rfl rfl rfl rfl rfl rfl rfl rfl rfl (by simp only [zzFlow, hp]) k
theorem ev_l2i {x : Int64} {pc' : Nat} (h : zzOp y pc = some (.l2i, 1)) (hp : pc + 1 = pc') (k : zzEv d y pc' ls (.int x.toInt32 :: st) Z r) : zzEv d y pc ls (.long x :: st) Z r := ev_fl h rfl rfl rfl rfl rfl rfl rfl rfl rfl rfl (by simp only [zzFlow, hp]) k
theorem ev_lcmp {a b : Int64} {pc' : Nat} (h : zzOp y pc = some (.lcmp, 1)) (hp : pc + 1 = pc') (k : zzEv d y pc' ls (.int (lg_cmp a b) :: st) Z r) : zzEv d y pc ls (.long b :: .long a :: st) Z r := ev_fl h rfl rfl rfl rfl rfl rfl rfl rfl rfl rfl (by simp only [zzFlow, hp]) k
/-! the memory of made objects -/
theorem fl_none {il : Instr × Nat} (h : ∀ (ls st : List Value) (Z : zzH), zzFlow pc il ls st Z = none) : zzFlow pc il ls st Z = none := h ls st Z
theorem ev_me {il : Instr × Nat} {pc' : Nat} {ls' st' : List Value} {Z' : zzH} (h : zzOp y pc = some il) (h0 : zzPush (zzM y).2.2.2.2.1 il = none) (h1 : zzLd il = none) (h2 : zzSd il = none) (hr : zzRet (zzM y).2.2.2.1 il st = none) (hi : zzInv (zzM y).2.2.2.2.1 il st Z = none) (b1 : zzBi il = none) (b2 : zzDi il = none) (b3 : zzUn il = none) (b4 : zzBl il = none) (b5 : zzDl il = none) (h3 : zzFlow pc il ls st Z = none) (h4 : zzMem (zzM y).2.2.2.2.1 ((zzM y).2.2.2.2.2.2.1 == 2) pc il ls st Z = some (pc', ls', st', Z')) (k : zzEv d y pc' ls' st' Z' r) : zzEv d y pc ls st Z r := ev_step h hr hi (st_mem h0 h1 h2 (ar_none b1 b2 b3 b4 b5) h3 h4) k
theorem ev_getI {i a c k pc' : Nat} (h : zzOp y pc = some (.getfield i, 3)) (hf : zzGet zzFL (zzM y).2.2.2.2.1 i = some (c, k)) (hc : c ≠ 99) (ht : zzT c k = 0 ∨ zzT c k = 1) (ha : zKd a = c) (hp : pc + 3 = pc') (kk : zzEv d y pc' ls (.int (J.2 a k) :: st) (zK J) r) : zzEv d y pc ls (.ref a :: st) (zK J) r := by
  refine ev_me h rfl rfl rfl rfl rfl rfl rfl rfl rfl rfl rfl (pc' := pc') (ls' := ls) (st' := .int (J.2 a k) :: st) (Z' := zK J) ?_ kk
  have hz : (zK J).1[a]? = some (c, zSz a) := zKd_get ha hc
  have hv : zzFv (zK J) c a k = .int (J.2 a k) := by
    unfold zzFv
    rcases ht with e | e <;> rw [e] <;> rfl
  simp only [zzMem, hf, hz, if_true, hv, hp]
theorem ev_getL {i a c k pc' : Nat} (h : zzOp y pc = some (.getfield i, 3)) (hf : zzGet zzFL (zzM y).2.2.2.2.1 i = some (c, k)) (hc : c ≠ 99) (ht : zzT c k = 2) (ha : zKd a = c) (hp : pc + 3 = pc') (kk : zzEv d y pc' ls (.long (J.1 a k) :: st) (zK J) r) : zzEv d y pc ls (.ref a :: st) (zK J) r := by
  refine ev_me h rfl rfl rfl rfl rfl rfl rfl rfl rfl rfl rfl (pc' := pc') (ls' := ls) (st' := .long (J.1 a k) :: st) (Z' := zK J) ?_ kk
  have hz : (zK J).1[a]? = some (c, zSz a) := zKd_get ha hc
  have hv : zzFv (zK J) c a k = .long (J.1 a k) := by unfold zzFv; rw [ht]; rfl
  simp only [zzMem, hf, hz, if_true, hv, hp]
theorem ev_getR {i a c k pc' b : Nat} (h : zzOp y pc = some (.getfield i, 3)) (hf : zzGet zzFL (zzM y).2.2.2.2.1 i = some (c, k)) (hc : c ≠ 99) (ht : zzT c k = 3) (ha : zKd a = c) (hb : zMR a k = some b) (hp : pc + 3 = pc') (kk : zzEv d y pc' ls (.ref b :: st) (zK J) r) : zzEv d y pc ls (.ref a :: st) (zK J) r := by
  refine ev_me h rfl rfl rfl rfl rfl rfl rfl rfl rfl rfl rfl (pc' := pc') (ls' := ls) (st' := .ref b :: st) (Z' := zK J) ?_ kk
  have hz : (zK J).1[a]? = some (c, zSz a) := zKd_get ha hc
  have hv : zzFv (zK J) c a k = .ref b := by
    unfold zzFv; rw [ht]
    show va_rf (zMR a k) = _
    rw [hb]; rfl
  simp only [zzMem, hf, hz, if_true, hv, hp]
theorem ev_putI {i a c k pc' : Nat} {x : Int32} (h : zzOp y pc = some (.putfield i, 3)) (hf : zzGet zzFL (zzM y).2.2.2.2.1 i = some (c, k)) (hc : c ≠ 99) (ht : zzT c k = 0) (hn : zzFin c k = false) (ha : zKd a = c) (hp : pc + 3 = pc') (kk : zzEv d y pc' ls st (zK (wI J a k x)) r) : zzEv d y pc ls (.int x :: .ref a :: st) (zK J) r := by
  refine ev_me h rfl rfl rfl rfl rfl rfl rfl rfl rfl rfl rfl (pc' := pc') (ls' := ls) (st' := st) (Z' := zK (wI J a k x)) ?_ kk
  have hz : (zK J).1[a]? = some (c, zSz a) := zKd_get ha hc
  have hv : zzPut (zK J) c a k (.int x) = some (zK (wI J a k x)) := by unfold zzPut; rw [ht]; rfl
  simp only [zzMem, hf, hz, hn, true_or, and_self, if_true, hv, Option.map_some, hp]
theorem ev_putZ {i a c k pc' : Nat} {x : Int32} (h : zzOp y pc = some (.putfield i, 3)) (hf : zzGet zzFL (zzM y).2.2.2.2.1 i = some (c, k)) (hc : c ≠ 99) (ht : zzT c k = 1) (hn : zzFin c k = false) (ha : zKd a = c) (hx : x = 0 ∨ x = 1) (hp : pc + 3 = pc') (kk : zzEv d y pc' ls st (zK (wI J a k x)) r) : zzEv d y pc ls (.int x :: .ref a :: st) (zK J) r := by
  refine ev_me h rfl rfl rfl rfl rfl rfl rfl rfl rfl rfl rfl (pc' := pc') (ls' := ls) (st' := st) (Z' := zK (wI J a k x)) ?_ kk
  have hz : (zK J).1[a]? = some (c, zSz a) := zKd_get ha hc
  have hv : zzPut (zK J) c a k (.int x) = some (zK (wI J a k x)) := by unfold zzPut; rw [ht]; exact if_pos hx
  simp only [zzMem, hf, hz, hn, true_or, and_self, if_true, hv, Option.map_some, hp]
theorem ev_putL {i a c k pc' : Nat} {x : Int64} (h : zzOp y pc = some (.putfield i, 3)) (hf : zzGet zzFL (zzM y).2.2.2.2.1 i = some (c, k)) (hc : c ≠ 99) (ht : zzT c k = 2) (hn : zzFin c k = false) (ha : zKd a = c) (hp : pc + 3 = pc') (kk : zzEv d y pc' ls st (zK (wL J a k x)) r) : zzEv d y pc ls (.long x :: .ref a :: st) (zK J) r := by
  refine ev_me h rfl rfl rfl rfl rfl rfl rfl rfl rfl rfl rfl (pc' := pc') (ls' := ls) (st' := st) (Z' := zK (wL J a k x)) ?_ kk
  have hz : (zK J).1[a]? = some (c, zSz a) := zKd_get ha hc
  have hv : zzPut (zK J) c a k (.long x) = some (zK (wL J a k x)) := by unfold zzPut; rw [ht]; rfl
  simp only [zzMem, hf, hz, hn, true_or, and_self, if_true, hv, Option.map_some, hp]
theorem ev_iald {a pc' : Nat} {i : Int32} (h : zzOp y pc = some (.iaload, 1)) (ha : zKd a = 8) (hin : zzIx i (zSz a)) (hp : pc + 1 = pc') (kk : zzEv d y pc' ls (.int (J.2 a i.toNatClampNeg) :: st) (zK J) r) : zzEv d y pc ls (.int i :: .ref a :: st) (zK J) r := by
  refine ev_me h rfl rfl rfl rfl rfl rfl rfl rfl rfl rfl rfl (pc' := pc') (ls' := ls) (st' := .int (J.2 a i.toNatClampNeg) :: st) (Z' := zK J) ?_ kk
  have hz : (zK J).1[a]? = some (8, zSz a) := zKd_get ha (by omega)
  have hne : ¬ a = 2000 := by rintro rfl; cases ha
  have e : zzMem (zzM y).2.2.2.2.1 ((zzM y).2.2.2.2.2.2.1 == 2) pc (.iaload, 1) ls (.int i :: .ref a :: st) (zK J) = (if a = 2000 then (if zzIx i ((zK J).2.2.1 2000 0).toNatClampNeg then some (pc + 1, ls, .int ((zK J).2.2.2 2000 i.toNatClampNeg) :: st, zK J) else none) else (match (zK J).1[a]? with
      | some q => if q.1 = 8 ∧ zzIx i q.2 then some (pc + 1, ls, .int ((zK J).2.2.2 a i.toNatClampNeg) :: st, zK J) else none
      | _ => none)) := rfl
  rw [e, if_neg hne, hz]
  dsimp only
  rw [if_pos ⟨rfl, hin⟩, hp]
  rfl
theorem ev_sald {pc' : Nat} {i : Int32} (h : zzOp y pc = some (.iaload, 1)) (hin : zzIx i (J.1 2000 0).toNatClampNeg) (hp : pc + 1 = pc') (kk : zzEv d y pc' ls (.int (J.2 2000 i.toNatClampNeg) :: st) (zK J) r) : zzEv d y pc ls (.int i :: .ref 2000 :: st) (zK J) r := by
  refine ev_me h rfl rfl rfl rfl rfl rfl rfl rfl rfl rfl rfl (pc' := pc') (ls' := ls) (st' := .int (J.2 2000 i.toNatClampNeg) :: st) (Z' := zK J) ?_ kk
  have e : zzMem (zzM y).2.2.2.2.1 ((zzM y).2.2.2.2.2.2.1 == 2) pc (.iaload, 1) ls (.int i :: .ref 2000 :: st) (zK J) = (if zzIx i ((zK J).2.2.1 2000 0).toNatClampNeg then some (pc + 1, ls, .int ((zK J).2.2.2 2000 i.toNatClampNeg) :: st, zK J) else none) := rfl
  rw [e, hp]
  exact if_pos hin
theorem ev_slen {pc' : Nat} (h : zzOp y pc = some (.arraylength, 1)) (hp : pc + 1 = pc') (kk : zzEv d y pc' ls (.int (Int32.ofNat (J.1 2000 0).toNatClampNeg) :: st) (zK J) r) : zzEv d y pc ls (.ref 2000 :: st) (zK J) r := by
  refine ev_me h rfl rfl rfl rfl rfl rfl rfl rfl rfl rfl rfl (pc' := pc') (ls' := ls) (st' := .int (Int32.ofNat (J.1 2000 0).toNatClampNeg) :: st) (Z' := zK J) ?_ kk
  subst hp
  rfl
theorem ev_alen {a pc' : Nat} (h : zzOp y pc = some (.arraylength, 1)) (ha : 8 ≤ zKd a ∧ zKd a ≤ 10) (hp : pc + 1 = pc') (kk : zzEv d y pc' ls (.int (Int32.ofNat (zSz a)) :: st) (zK J) r) : zzEv d y pc ls (.ref a :: st) (zK J) r := by
  refine ev_me h rfl rfl rfl rfl rfl rfl rfl rfl rfl rfl rfl (pc' := pc') (ls' := ls) (st' := .int (Int32.ofNat (zSz a)) :: st) (Z' := zK J) ?_ kk
  have hz : (zK J).1[a]? = some (zKd a, zSz a) := zKd_get rfl (by omega)
  have hne : ¬ a = 2000 := by rintro rfl; exact absurd ha.2 (by decide)
  have e : zzMem (zzM y).2.2.2.2.1 ((zzM y).2.2.2.2.2.2.1 == 2) pc (.arraylength, 1) ls (.ref a :: st) (zK J) = (if a = 2000 then some (pc + 1, ls, .int (Int32.ofNat ((zK J).2.2.1 2000 0).toNatClampNeg) :: st, zK J) else (match (zK J).1[a]? with
      | some q => if 8 ≤ q.1 then some (pc + 1, ls, .int (Int32.ofNat q.2) :: st, zK J) else none
      | _ => none)) := rfl
  rw [e, if_neg hne, hz]
  dsimp only
  rw [if_pos ha.1, hp]
theorem ev_iast {a pc' : Nat} {i x : Int32} (h : zzOp y pc = some (.iastore, 1)) (ha : zKd a = 8) (hin : zzIx i (zSz a)) (hp : pc + 1 = pc') (kk : zzEv d y pc' ls st (zK (wI J a i.toNatClampNeg x)) r) : zzEv d y pc ls (.int x :: .int i :: .ref a :: st) (zK J) r := by
  refine ev_me h rfl rfl rfl rfl rfl rfl rfl rfl rfl rfl rfl (pc' := pc') (ls' := ls) (st' := st) (Z' := zK (wI J a i.toNatClampNeg x)) ?_ kk
  have hz : (zK J).1[a]? = some (8, zSz a) := zKd_get ha (by omega)
  simp only [zzMem, hz, true_and, if_pos hin, hp]
  rfl
theorem ev_bald {a pc' : Nat} {i : Int32} (h : zzOp y pc = some (.baload, 1)) (ha : zKd a = 9) (hin : zzIx i (zSz a)) (hp : pc + 1 = pc') (kk : zzEv d y pc' ls (.int (J.2 a i.toNatClampNeg) :: st) (zK J) r) : zzEv d y pc ls (.int i :: .ref a :: st) (zK J) r := by
  refine ev_me h rfl rfl rfl rfl rfl rfl rfl rfl rfl rfl rfl (pc' := pc') (ls' := ls) (st' := .int (J.2 a i.toNatClampNeg) :: st) (Z' := zK J) ?_ kk
  have hz : (zK J).1[a]? = some (9, zSz a) := zKd_get ha (by omega)
  simp only [zzMem, hz, true_and, if_pos hin, hp]
  rfl
theorem ev_bast {a pc' : Nat} {i x : Int32} (h : zzOp y pc = some (.bastore, 1)) (ha : zKd a = 9) (hin : zzIx i (zSz a)) (hx : x = 0 ∨ x = 1) (hp : pc + 1 = pc') (kk : zzEv d y pc' ls st (zK (wI J a i.toNatClampNeg x)) r) : zzEv d y pc ls (.int x :: .int i :: .ref a :: st) (zK J) r := by
  refine ev_me h rfl rfl rfl rfl rfl rfl rfl rfl rfl rfl rfl (pc' := pc') (ls' := ls) (st' := st) (Z' := zK (wI J a i.toNatClampNeg x)) ?_ kk
  have hz : (zK J).1[a]? = some (9, zSz a) := zKd_get ha (by omega)
  have e : zzMem (zzM y).2.2.2.2.1 ((zzM y).2.2.2.2.2.2.1 == 2) pc (.bastore, 1) ls (.int x :: .int i :: .ref a :: st) (zK J) = (match (zK J).1[a]? with
      | some q => if q.1 = 9 ∧ zzIx i q.2 ∧ (x = 0 ∨ x = 1) then some (pc + 1, ls, st, ((zK J).1, (zK J).2.1, (zK J).2.2.1, zzUp (zK J).2.2.2 a i.toNatClampNeg x)) else none
      | _ => none) := rfl
  rw [e, hz]
  dsimp only
  rw [if_pos ⟨rfl, hin, hx⟩, hp]
  rfl
theorem ev_aald {a b pc' : Nat} {i : Int32} (h : zzOp y pc = some (.aaload, 1)) (ha : zKd a = 10) (hin : zzIx i (zSz a)) (hb : zMR a i.toNatClampNeg = some b) (hp : pc + 1 = pc') (kk : zzEv d y pc' ls (.ref b :: st) (zK J) r) : zzEv d y pc ls (.int i :: .ref a :: st) (zK J) r := by
  refine ev_me h rfl rfl rfl rfl rfl rfl rfl rfl rfl rfl rfl (pc' := pc') (ls' := ls) (st' := .ref b :: st) (Z' := zK J) ?_ kk
  have hz : (zK J).1[a]? = some (10, zSz a) := zKd_get ha (by omega)
  have hv : va_rf ((zK J).2.1 a i.toNatClampNeg) = .ref b := by
    show va_rf (zMR a i.toNatClampNeg) = _
    rw [hb]; rfl
  simp only [zzMem, hz, true_and, if_pos hin, hp, hv]
theorem ev_pr {il : Instr × Nat} {pc' : Nat} {ls' st' : List Value} {Z' : zzH} (h : zzOp y pc = some il) (h0 : zzPush (zzM y).2.2.2.2.1 il = none) (h1 : zzLd il = none) (h2 : zzSd il = none) (hr : zzRet (zzM y).2.2.2.1 il st = none) (hi : zzInv (zzM y).2.2.2.2.1 il st Z = none) (b1 : zzBi il = none) (b2 : zzDi il = none) (b3 : zzUn il = none) (b4 : zzBl il = none) (b5 : zzDl il = none) (h3 : zzFlow pc il ls st Z = none) (h4 : zzMem (zzM y).2.2.2.2.1 ((zzM y).2.2.2.2.2.2.1 == 2) pc il ls st Z = none) (h5 : zzPrim (zzM y).2.2.2.2.1 pc il ls st Z = some (pc', ls', st', Z')) (k : zzEv d y pc' ls' st' Z' r) : zzEv d y pc ls st Z r := ev_step h hr hi (st_prim h0 h1 h2 (ar_none b1 b2 b3 b4 b5) h3 h4 h5) k
theorem inv_prim {own i kd q : Nat} {il : Instr × Nat} (h : zzGet zzML own i = some (kd, q)) (hk : 4 ≤ kd) (hil : zzIk il = some (i, 0) ∨ zzIk il = some (i, 2) ∨ zzIk il = some (i, 3)) : zzInv own il st Z = none := by
  unfold zzInv
  rcases hil with e | e | e <;> rw [e] <;> dsimp only <;> rw [h] <;> dsimp only <;> exact if_neg (by omega)
theorem ev_copy {i q a b pc' : Nat} {n dp sp : Int32} (h : zzOp y pc = some (.invokestatic i, 3)) (hm : zzGet zzML (zzM y).2.2.2.2.1 i = some (5, q)) (hcat : zzCat st ≤ 8) (ha : zKd a = 8) (hb : zKd b = 8) (g1 : ¬ sp < 0) (g2 : ¬ dp < 0) (g3 : ¬ n < 0) (g4 : sp.toNatClampNeg + n.toNatClampNeg ≤ zSz b) (g5 : dp.toNatClampNeg + n.toNatClampNeg ≤ zSz a) (hp : pc + 3 = pc') (kk : zzEv d y pc' ls st (zK (wC J a (va_cpy (J.2 b) (J.2 a) sp.toNatClampNeg dp.toNatClampNeg n.toNatClampNeg))) r) : zzEv d y pc ls (.int n :: .int dp :: .ref a :: .int sp :: .ref b :: st) (zK J) r := by
  refine ev_pr h rfl rfl rfl rfl (inv_prim hm (by omega) (Or.inl rfl)) rfl rfl rfl rfl rfl rfl rfl (pc' := pc') (ls' := ls) (st' := st) (Z' := zK (wC J a (va_cpy (J.2 b) (J.2 a) sp.toNatClampNeg dp.toNatClampNeg n.toNatClampNeg))) ?_ kk
  have hz : (zK J).1[a]? = some (8, zSz a) := zKd_get ha (by omega)
  have hw : (zK J).1[b]? = some (8, zSz b) := zKd_get hb (by omega)
  simp only [zzPrim, hm, hz, hw]
  rw [if_pos ⟨hcat, trivial, trivial, g1, g2, g3, g4, g5⟩, hp]
  rfl
theorem ev_slength {i q a pc' : Nat} (h : zzOp y pc = some (.invokevirtual i, 3)) (hm : zzGet zzML (zzM y).2.2.2.2.1 i = some (6, q)) (hcat : zzCat st ≤ 8) (ha : 1000 ≤ a ∧ a < 1013) (hp : pc + 3 = pc') (kk : zzEv d y pc' ls (.int (Int32.ofNat (zzTx (a - 1000)).length) :: st) Z r) : zzEv d y pc ls (.ref a :: st) Z r := by
  refine ev_pr h rfl rfl rfl rfl (inv_prim hm (by omega) (Or.inr (Or.inl rfl))) rfl rfl rfl rfl rfl rfl rfl (pc' := pc') (ls' := ls) (st' := .int (Int32.ofNat (zzTx (a - 1000)).length) :: st) (Z' := Z) ?_ kk
  simp only [zzPrim, hm]
  rw [if_pos ⟨ha.1, ha.2, hcat⟩, hp]
theorem ev_scharAt {i q a pc' : Nat} {k : Int32} (h : zzOp y pc = some (.invokevirtual i, 3)) (hm : zzGet zzML (zzM y).2.2.2.2.1 i = some (7, q)) (hcat : zzCat st ≤ 8) (ha : 1000 ≤ a ∧ a < 1013) (hin : zzIx k (zzTx (a - 1000)).length) (hp : pc + 3 = pc') (kk : zzEv d y pc' ls (.int (Int32.ofNat ((zzTx (a - 1000)).getD k.toNatClampNeg 0)) :: st) Z r) : zzEv d y pc ls (.int k :: .ref a :: st) Z r := by
  refine ev_pr h rfl rfl rfl rfl (inv_prim hm (by omega) (Or.inr (Or.inl rfl))) rfl rfl rfl rfl rfl rfl rfl (pc' := pc') (ls' := ls) (st' := .int (Int32.ofNat ((zzTx (a - 1000)).getD k.toNatClampNeg 0)) :: st) (Z' := Z) ?_ kk
  simp only [zzPrim, hm]
  rw [if_pos ⟨ha.1, ha.2, hcat, hin⟩, hp]
/-- calls: the arguments lie on the stack, the last on top -/
theorem ev_callS {i kd y' pc' : Nat} {as lsn rest : List Value} {v : Option Value} {Z' : zzH} (h : zzOp y pc = some (.invokestatic i, 3)) (hm : zzGet zzML (zzM y).2.2.2.2.1 i = some (kd, y')) (hk : kd ≤ 1) (hn : (zzM y').2.2.2.2.2.1 = as.length) (he : zzIn y' as.reverse = lsn) (hlen : (zzEnt as.reverse).length ≤ (zzM y').2.2.1) (hcat : zzCat rest ≤ 8) (hc : zzEv d y' 0 lsn [] Z (v, Z')) (hp : pc + 3 = pc') (kk : zzEv (d + 1) y pc' ls (v.toList ++ rest) Z' r) : zzEv (d + 1) y pc ls (as ++ rest) Z r := by
  subst hp
  subst he
  refine ev_call0 h rfl ?_ hc kk
  unfold zzInv
  rw [show zzIk (.invokestatic i, 3) = some (i, 0) from rfl]
  dsimp only
  rw [hm]
  dsimp only
  rw [hn, List.take_left' rfl, List.drop_left' rfl, if_pos ⟨by simp, hcat, hlen, Or.inl ⟨rfl, hk⟩⟩]
theorem ev_callV {i y' pc' a : Nat} {as lsn rest : List Value} {v : Option Value} {J : zzJ} {Z' : zzH} (h : zzOp y pc = some (.invokevirtual i, 3)) (hm : zzGet zzML (zzM y).2.2.2.2.1 i = some (2, y')) (hn : (zzM y').2.2.2.2.2.1 = as.length + 1) (hcl : zKd a = (zzM y').2.2.2.2.1) (h99 : (zzM y').2.2.2.2.1 ≠ 99) (he : zzIn y' (.ref a :: as.reverse) = lsn) (hlen : (zzEnt (.ref a :: as.reverse)).length ≤ (zzM y').2.2.1) (hcat : zzCat rest ≤ 8) (hc : zzEv d y' 0 lsn [] (zK J) (v, Z')) (hp : pc + 3 = pc') (kk : zzEv (d + 1) y pc' ls (v.toList ++ rest) Z' r) : zzEv (d + 1) y pc ls (as ++ .ref a :: rest) (zK J) r := by
  subst hp
  subst he
  have e : as ++ Value.ref a :: rest = (as ++ [Value.ref a]) ++ rest := by simp
  rw [e]
  have hrv : (as ++ [Value.ref a]).reverse = Value.ref a :: as.reverse := by simp
  have hz : (zK J).1[a]? = some ((zzM y').2.2.2.2.1, zSz a) := zKd_get hcl h99
  refine ev_call0 (as := .ref a :: as.reverse) h rfl ?_ hc kk
  unfold zzInv
  rw [show zzIk (.invokevirtual i, 3) = some (i, 2) from rfl]
  dsimp only
  rw [hm]
  dsimp only
  have hr2 : zzRcv 2 y' (.ref a :: as.reverse) (zK J) = true := by
    unfold zzRcv
    dsimp only
    rw [hz]
    simp
  rw [hn, List.take_left' (by simp), List.drop_left' (by simp), hrv, if_pos ⟨by simp, hcat, hlen, Or.inr (Or.inl ⟨rfl, rfl, hr2⟩)⟩]
end ZEW
end
section
/-! the rules in the form that the printed walks use -/
section ZEX
variable {d y pc : Nat} {ls st : List Value} {Z : zzH} {J : zzJ} {r : Option Value × zzH}
theorem ev_retI {x : Int32} (h : zzOp y pc = some (.ireturn, 1)) (hr : (zzM y).2.2.2.1 = some .int) : zzEv d y pc ls [.int x] Z (some (.int x), Z) := ev_ret h (by rw [hr]; rfl)
theorem ev_retZ {x : Int32} (h : zzOp y pc = some (.ireturn, 1)) (hr : (zzM y).2.2.2.1 = some .boolean) (hx : x = 0 ∨ x = 1) : zzEv d y pc ls [.int x] Z (some (.int x), Z) := ev_ret h (by rw [hr]; exact if_pos hx)
theorem ev_retL {x : Int64} (h : zzOp y pc = some (.lreturn, 1)) (hr : (zzM y).2.2.2.1 = some .long) : zzEv d y pc ls [.long x] Z (some (.long x), Z) := ev_ret h (by rw [hr]; rfl)
theorem ev_retV (h : zzOp y pc = some (.return_, 1)) (hr : (zzM y).2.2.2.1 = none) : zzEv d y pc ls [] Z (none, Z) := ev_ret h (by rw [hr]; rfl)
theorem ev_retR {o : Option Nat} {c : String} (h : zzOp y pc = some (.areturn, 1)) (hr : (zzM y).2.2.2.1 = some (.object c)) : zzEv d y pc ls [va_rf o] Z (some (va_rf o), Z) := ev_ret h (by rw [hr]; cases o <;> rfl)
theorem zz_set {i t : Nat} {v : Value} (hg : zzLg ls i = false) (ht : ¬ t = 2) (hi : i < ls.length) : zzSet ls i t v = some (ls.set i v) := by
  unfold zzSet
  rw [if_neg (by rw [hg]; decide), if_neg ht, if_pos hi]
theorem zz_setL {i : Nat} {v : Value} (hg : zzLg ls i = false) (hi : i + 1 < ls.length) : zzSet ls i 2 v = some ((ls.set i v).set (i + 1) zzU) := by
  unfold zzSet
  rw [if_neg (by rw [hg]; decide), if_pos rfl, if_pos hi]
theorem zz_lg {j : Nat} {v : Value} (h : ls[j]? = some v) (hv : v.category = 1) : zzLg ls (j + 1) = false := by
  show (match ls[j]? with | some v => v.category == 2 | none => false) = false
  rw [h]
  dsimp only
  rw [hv]
  rfl
theorem ev_cS {i kd y' pc' : Nat} {as lsn rest : List Value} {v : Option Value} {Z' : zzH} (hd : 1 ≤ d) (h : zzOp y pc = some (.invokestatic i, 3)) (hm : zzGet zzML (zzM y).2.2.2.2.1 i = some (kd, y')) (hk : kd ≤ 1) (hn : (zzM y').2.2.2.2.2.1 = as.length) (he : zzIn y' as.reverse = lsn) (hlen : (zzEnt as.reverse).length ≤ (zzM y').2.2.1) (hcat : zzCat rest ≤ 8) (hc : zzEv (d - 1) y' 0 lsn [] Z (v, Z')) (hp : pc + 3 = pc') (kk : zzEv d y pc' ls (v.toList ++ rest) Z' r) : zzEv d y pc ls (as ++ rest) Z r := by
  obtain ⟨d', rfl⟩ : ∃ d', d = d' + 1 := ⟨d - 1, by omega⟩
  exact ev_callS h hm hk hn he hlen hcat hc hp kk
theorem ev_cV {i y' pc' a : Nat} {as lsn rest : List Value} {v : Option Value} {Z' : zzH} (hd : 1 ≤ d) (h : zzOp y pc = some (.invokevirtual i, 3)) (hm : zzGet zzML (zzM y).2.2.2.2.1 i = some (2, y')) (hn : (zzM y').2.2.2.2.2.1 = as.length + 1) (hcl : zKd a = (zzM y').2.2.2.2.1) (h99 : (zzM y').2.2.2.2.1 ≠ 99) (he : zzIn y' (.ref a :: as.reverse) = lsn) (hlen : (zzEnt (.ref a :: as.reverse)).length ≤ (zzM y').2.2.1) (hcat : zzCat rest ≤ 8) (hc : zzEv (d - 1) y' 0 lsn [] (zK J) (v, Z')) (hp : pc + 3 = pc') (kk : zzEv d y pc' ls (v.toList ++ rest) Z' r) : zzEv d y pc ls (as ++ .ref a :: rest) (zK J) r := by
  obtain ⟨d', rfl⟩ : ∃ d', d = d' + 1 := ⟨d - 1, by omega⟩
  exact ev_callV h hm hn hcl h99 he hlen hcat hc hp kk
theorem sw_out {lo hi : Int} {x : Int32} (n : Nat) (hn : hi = lo + n - 1) (h : ∀ k : Nat, k < n → ¬ x.toInt = lo + k) : x.toInt < lo ∨ hi < x.toInt := by
  rcases (show x.toInt < lo ∨ lo ≤ x.toInt by omega) with h1 | h1
  · exact Or.inl h1
  · refine Or.inr ?_
    rcases (show hi < x.toInt ∨ x.toInt ≤ hi by omega) with h2 | h2
    · exact h2
    · have h3 : (x.toInt - lo).toNat < n := by omega
      exact absurd (by omega) (h (x.toInt - lo).toNat h3)
theorem sw_ne {x c : Int32} {k : Int} (h : ¬ x = c) (hc : c.toInt = k) : ¬ x.toInt = k := fun z => h (Int32.toInt_inj.mp (z.trans hc.symm))
theorem ev_tableIn {df lo hi : Int} {offs : Array Int} {len t : Nat} {x c : Int32} (h : zzOp y pc = some (.tableswitch df lo hi offs, len)) (hx : x = c) (ht : zzFlow pc (.tableswitch df lo hi offs, len) [] [.int c] (zK (fun _ _ => 0, fun _ _ => 0)) = some (t, [], [], zK (fun _ _ => 0, fun _ _ => 0))) (k : zzEv d y t ls st Z r) : zzEv d y pc ls (.int x :: st) Z r := by
  subst hx
  refine ev_table h ?_ k
  simp only [zzFlow] at ht ⊢
  split at ht
  · next ho =>
    rw [if_pos ho]
    cases hz : zzTg pc df with
    | none => rw [hz] at ht; cases ht
    | some t' => rw [hz] at ht; cases ht; rfl
  · next ho =>
    rw [if_neg ho]
    split at ht
    · next off hof =>
      cases hz : zzTg pc off with
      | none => rw [hz] at ht; cases ht
      | some t' => rw [hz] at ht; cases ht; rfl
    · cases ht
theorem ev_tableOut {df lo hi : Int} {offs : Array Int} {len t : Nat} {x : Int32} (h : zzOp y pc = some (.tableswitch df lo hi offs, len)) (ho : x.toInt < lo ∨ hi < x.toInt) (ht : zzTg pc df = some t) (k : zzEv d y t ls st Z r) : zzEv d y pc ls (.int x :: st) Z r := by
  refine ev_table h ?_ k
  simp only [zzFlow]
  rw [if_pos ho, ht]
  rfl
end ZEX
end
section
/-! what is left to show: the law's run, for every script -/
theorem zz_run (L : Nat) (xs : Nat → Int32) (hL : L ≤ 3072) : ∃ n Zf, zzExec n 2000 zzLaw 0 [.ref 2000, zzU, zzU, zzU] [] (zzZ0 L xs) = some (some (.int 1), Zf) ∧ Zf.1.length ≤ 600000 ∧ zzSl Zf ≤ 7302250 := by
  sorry
end
section
/-! the claim -/
theorem whole_start {p : Program} {e : Env} {s : State} {m : MethodId} {below : List Frame} {meth : Method} {c : Code} (l : Launch) (hflags : l.flags = flags0) {b L : Nat} {xs : Nat → Int32} (hL : L ≤ 3072) (C0 : lw_At p s m meth c b L xs) : W p l e room_1 s m #[Value.ref b] below meth c s.heap [] 0 0 (lw_Z below #[Value.ref b] s) (entryFrame m ([Value.ref b] : List Value).toArray 4) := zz_whole l hL C0 (zz_run L xs hL)
-- ===== YOUR PART ENDS =====
set_option maxHeartbeats 4000000 in
theorem lw_walk (l : Launch) (hflags : l.flags = flags0) (b : Addr) (xs : List Int32) : MetFree l x (headSpec (Jvm.Cond.code x code maxLocals ret :: tables_1) room_1) (lw_P b xs) (fun _ _ _ _ _ => True) lw_Q := by
  refine MetFree.of_bodyS (code := code) (maxLocals := maxLocals) (ret := ret) (by decide) ?_ ?_
  · intro args s m h hn
    obtain ⟨meth, c, h1, h2, h3, h4, h5, h6, -, -⟩ := Cond.code_spec hn (atoms_spec (ws := Jvm.Cond.code x code maxLocals ret :: tables_1) h _ List.mem_cons_self)
    exact ⟨meth, c, h1, h2, h3, h4, h5, h6⟩
  · intro p e s m args below meth c s₁ B hml0 hP _
    obtain ⟨rfl, hx, hbd, hgv⟩ := hP
    obtain ⟨scr, harrAt, hlist, hof, hsmall⟩ := hx
    obtain ⟨hcb, hkn, -, -⟩ := State.arrayAt?_spec harrAt
    have hown : s.vm.findClass R_law = some m.cls := findClass_of_methodNamed B.named
    have hts0 : ∀ c ∈ (Jvm.Cond.code x code maxLocals ret :: tables_1), c.before #[Value.ref b] s = true := atoms_spec (ws := Jvm.Cond.code x code maxLocals ret :: tables_1) B.pre
    have hts : ∀ w ∈ lw_tbl, w.before #[Value.ref b] s = true := k2_hts_sels lw_privs (fun w hw => hts0 w (List.mem_cons_of_mem _ hw)) lw_privs_ok
    have hml : c.maxLocals = 4 := B.maxLocals_eq (hts0 _ List.mem_cons_self)
    have X₀ : Stand p l e room_1 s m #[Value.ref b] below meth c s₁ [] 0 0 := Stand.of_body B
    have hh0 : s₁.heap = s.heap := by rw [B.state]; rfl
    have hsz : scr.slots.size = xs.length := by rw [← Array.length_toList, hlist, List.length_map]
    have hval : ∀ j : Nat, j < xs.length → scr.slots[j]? = some (.int (xs.getD j 0)) := fun j hj => by
      rw [← Array.getElem?_toList, hlist]
      simp [hj]
    have hbl : b < s.heap.size := (Array.getElem?_eq_some_iff.mp hcb).1
    have hX : va_X b xs.length (fun j => xs.getD j 0) s s.heap := ⟨scr, hcb, hof, hkn, hsz, hval⟩
    have K : W p l e room_1 s m #[Value.ref b] below meth c s₁.heap [] 0 0 (lw_Z below #[Value.ref b] s) (entryFrame m ([Value.ref b] : List Value).toArray 4) := by
      rw [hh0]
      exact whole_start l hflags hbd ⟨B.exec, B.bytes, B.returns, hml, hown, hts, hX, hbl, B.notSynchronized, hgv⟩
    obtain ⟨t, a1, o, b1, b2, b3⟩ := K s₁ rfl X₀
    exact ⟨t, o, a1, b1, b2, b3⟩
theorem lw_pre_spec {args : Array Value} {s : State} (h : (Jvm.Cond.and given_1 narrow_1).before args s = true) (hr : rest_1_c.before args s = true) : ∃ (b : Addr) (xs : List Int32), lw_P b xs args s := by
  have hs := flat_of_before _ h
  have hq := flat_of_before _ hr
  have hc : (Cond.count 1).before args s = true := hs _ (by decide +kernel)
  have harr : (Cond.arrayOf (.arg 0) .int).before args s = true := hs _ (by decide +kernel)
  have hle : (Cond.le (.length (.arg 0)) (.int 3072)).before args s = true := hs _ (by decide +kernel)
  have hlen : (Cond.isInt (.length (.arg 0))).before args s = true := hq _ (by decide +kernel)
  have hall : (Cond.all (.arg 0) (.isInt (.elem (.arg 0) (.index 0)))).before args s = true := hq _ (by decide +kernel)
  obtain ⟨b, xs, hb, hx⟩ := State.ints_of_pre rfl harr hlen hall
  have hsm : xs.length < 2 ^ 31 := hx.choose_spec.2.2.2
  have hev : (Term.length (.arg 0)).eval args s none [] s = some (.int xs.length.toInt32) := hx.length_eval hb
  have hv := Cond.le_ints hev (show (Term.int 3072).eval args s none [] s = some (.int 3072) from rfl)
  have hd : xs.length.toInt32 ≤ 3072 := by
    simpa [Cond.before, Cond.holds, hv] using hle
  have hN : xs.length ≤ 3072 := (Int32.ofNat_le_ofNat hsm (by decide)).mp (show Int32.ofNat xs.length ≤ Int32.ofNat 3072 from hd)
  exact ⟨b, xs, Cond.one_arg hc (show args[0]? = some (.ref b) from hb), hx, hN, h⟩
theorem lw_comes (l : Launch) (hflags : l.flags = flags0) : Comes l x (Jvm.Cond.code x code maxLocals ret :: tables_1) room_1 (fun tb e args s => Calls_1 tb e args s ∧ rest_1 tb e args s ∧ Pre_1 tb e args s)
    (fun _ _ args s o t => lw_Q args s o t) := by
  intro p e ha hc hk s m args below hf hfit hheap happ hpre
  obtain ⟨b, xs, hP⟩ := lw_pre_spec hpre.2.2 hpre.2.1
  obtain ⟨k, o, h1, h2, h3, hQ⟩ := lw_walk l hflags b xs p e ha hc hk s m args below hf ((Spec.applies_iff_loose hf).mp happ).1 hP trivial
  exact ⟨k, o, h1, h2, h3, hQ⟩
theorem lw_frame {s t : State} {o : Outcome} {args : Array Value} (h : Framed s o t [] 600000 7302250) :
    Framed s o t (fieldLocs frame_1_writes args s ++ arrayLocs frame_1_arrays args s ++ staticLocs frame_1_statics s) 600000 7302250 := h
theorem lw_limb (L : Cond) (hL : ∀ (args : Array Value) (s t : State), L.after args s (.returned (some (.int 1))) t = true) :
    ArmFor flags0 classFile x code maxLocals ret World_1 tables_1 room_1 Calls_1 rest_1 Pre_1
      (fun tb e a s o t => postC L tb e a s o t ∧ Framed s o t (fieldLocs frame_1_writes a s ++ arrayLocs frame_1_arrays a s ++ staticLocs frame_1_statics s) 600000 7302250) := by
  intro l hflags _ _ p e ha hc hk s m args below hf hfit hheap happ hpre
  obtain ⟨k, o, h1, h2, h3, rfl, hF⟩ := lw_comes l hflags p e ha hc hk s m args below hf hfit hheap happ hpre
  exact ⟨k, _, h1, h2, h3, hL args s _, lw_frame hF⟩
theorem i_vc : Claimed_1_1 ∧ Claimed_1_2 := ⟨lw_limb limb_1_1 (fun args s t => by simp [limb_1_1, Cond.after, Cond.holds, Cond.value]), lw_limb limb_1_2 (fun args s t => Cond.after_iff.mpr (by
  first | (rw [show limb_1_2 = Cond.eq .result (.int 1) from rfl, Cond.eq_ints (x := 1) (y := 1) rfl rfl]; simp; done) | (simp [limb_1_2, Cond.value, Term.eval]; done)))⟩
end
