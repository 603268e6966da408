-- ===== PART A: goes FIRST, ahead of the names: the tables' words, and 'selects' of the private methods out of them =====
/-- a private method of a class that the tables say can be made, by its rows of tables_1 -/
def lw_okq (q : MethodName × Nat) : Prop := (q.1.cls ≠ "java/lang/invoke/MethodHandle" ∧ q.1.cls ≠ "java/lang/invoke/VarHandle") ∧ Cond.instantiable q.1.cls q.2 ∈ tables_1 ∧ Cond.privateMethod q.1 ∈ tables_1 ∧ Cond.instanceMethod q.1 ∈ tables_1
theorem lw_p0 : lw_okq (⟨"RutWays", "putOnTape", "(I)V"⟩, 16) := ⟨⟨by decide +kernel, by decide +kernel⟩, List.mem_of_getElem? (i := 24) (by decide +kernel), List.mem_of_getElem? (i := 420) (by decide +kernel), List.mem_of_getElem? (i := 421) (by decide +kernel)⟩
theorem lw_p1 : lw_okq (⟨"RutWays", "spareLand", "()LRutWays$Land;"⟩, 16) := ⟨⟨by decide +kernel, by decide +kernel⟩, List.mem_of_getElem? (i := 24) (by decide +kernel), List.mem_of_getElem? (i := 428) (by decide +kernel), List.mem_of_getElem? (i := 429) (by decide +kernel)⟩
theorem lw_p2 : lw_okq (⟨"RutWays$Tokens", "byteAt", "(I)I"⟩, 8) := ⟨⟨by decide +kernel, by decide +kernel⟩, List.mem_of_getElem? (i := 38) (by decide +kernel), List.mem_of_getElem? (i := 455) (by decide +kernel), List.mem_of_getElem? (i := 456) (by decide +kernel)⟩
theorem lw_p3 : lw_okq (⟨"RutWays$Tokens", "takeWord", "(I)I"⟩, 8) := ⟨⟨by decide +kernel, by decide +kernel⟩, List.mem_of_getElem? (i := 38) (by decide +kernel), List.mem_of_getElem? (i := 462) (by decide +kernel), List.mem_of_getElem? (i := 463) (by decide +kernel)⟩
theorem lw_p4 : lw_okq (⟨"RutWays$Tokens", "isSame", "(III)Z"⟩, 8) := ⟨⟨by decide +kernel, by decide +kernel⟩, List.mem_of_getElem? (i := 38) (by decide +kernel), List.mem_of_getElem? (i := 515) (by decide +kernel), List.mem_of_getElem? (i := 516) (by decide +kernel)⟩
theorem lw_p5 : lw_okq (⟨"RutWays$Tokens", "keep", "(III)V"⟩, 8) := ⟨⟨by decide +kernel, by decide +kernel⟩, List.mem_of_getElem? (i := 38) (by decide +kernel), List.mem_of_getElem? (i := 522) (by decide +kernel), List.mem_of_getElem? (i := 523) (by decide +kernel)⟩
theorem lw_p6 : lw_okq (⟨"RutWays$Tokens", "takeDigits", "(I)I"⟩, 8) := ⟨⟨by decide +kernel, by decide +kernel⟩, List.mem_of_getElem? (i := 38) (by decide +kernel), List.mem_of_getElem? (i := 529) (by decide +kernel), List.mem_of_getElem? (i := 530) (by decide +kernel)⟩
theorem lw_p7 : lw_okq (⟨"RutWays$Reader", "readLandLine", "()Z"⟩, 6) := ⟨⟨by decide +kernel, by decide +kernel⟩, List.mem_of_getElem? (i := 32) (by decide +kernel), List.mem_of_getElem? (i := 593) (by decide +kernel), List.mem_of_getElem? (i := 594) (by decide +kernel)⟩
theorem lw_p8 : lw_okq (⟨"RutWays$Reader", "take", "(I)Z"⟩, 6) := ⟨⟨by decide +kernel, by decide +kernel⟩, List.mem_of_getElem? (i := 32) (by decide +kernel), List.mem_of_getElem? (i := 597) (by decide +kernel), List.mem_of_getElem? (i := 598) (by decide +kernel)⟩
theorem lw_p9 : lw_okq (⟨"RutWays$Reader", "refuse", "(I)Z"⟩, 6) := ⟨⟨by decide +kernel, by decide +kernel⟩, List.mem_of_getElem? (i := 32) (by decide +kernel), List.mem_of_getElem? (i := 601) (by decide +kernel), List.mem_of_getElem? (i := 602) (by decide +kernel)⟩
theorem lw_p10 : lw_okq (⟨"RutWays$Reader", "takeNumber", "(III)Z"⟩, 6) := ⟨⟨by decide +kernel, by decide +kernel⟩, List.mem_of_getElem? (i := 32) (by decide +kernel), List.mem_of_getElem? (i := 606) (by decide +kernel), List.mem_of_getElem? (i := 607) (by decide +kernel)⟩
theorem lw_p11 : lw_okq (⟨"RutWays$Reader", "takeLineEnd", "()Z"⟩, 6) := ⟨⟨by decide +kernel, by decide +kernel⟩, List.mem_of_getElem? (i := 32) (by decide +kernel), List.mem_of_getElem? (i := 610) (by decide +kernel), List.mem_of_getElem? (i := 611) (by decide +kernel)⟩
theorem lw_p12 : lw_okq (⟨"RutWays$Reader", "readLine", "()Z"⟩, 6) := ⟨⟨by decide +kernel, by decide +kernel⟩, List.mem_of_getElem? (i := 32) (by decide +kernel), List.mem_of_getElem? (i := 614) (by decide +kernel), List.mem_of_getElem? (i := 615) (by decide +kernel)⟩
theorem lw_p13 : lw_okq (⟨"RutWays$Reader", "readLane", "()Z"⟩, 6) := ⟨⟨by decide +kernel, by decide +kernel⟩, List.mem_of_getElem? (i := 32) (by decide +kernel), List.mem_of_getElem? (i := 618) (by decide +kernel), List.mem_of_getElem? (i := 619) (by decide +kernel)⟩
theorem lw_p14 : lw_okq (⟨"RutWays$Reader", "readFlag", "(I)Z"⟩, 6) := ⟨⟨by decide +kernel, by decide +kernel⟩, List.mem_of_getElem? (i := 32) (by decide +kernel), List.mem_of_getElem? (i := 622) (by decide +kernel), List.mem_of_getElem? (i := 623) (by decide +kernel)⟩
theorem lw_p15 : lw_okq (⟨"RutWays$Reader", "readCart", "()Z"⟩, 6) := ⟨⟨by decide +kernel, by decide +kernel⟩, List.mem_of_getElem? (i := 32) (by decide +kernel), List.mem_of_getElem? (i := 626) (by decide +kernel), List.mem_of_getElem? (i := 627) (by decide +kernel)⟩
def lw_privs_1 : List (MethodName × Nat) := [(⟨"RutWays", "putOnTape", "(I)V"⟩, 16), (⟨"RutWays", "spareLand", "()LRutWays$Land;"⟩, 16), (⟨"RutWays$Tokens", "byteAt", "(I)I"⟩, 8), (⟨"RutWays$Tokens", "takeWord", "(I)I"⟩, 8), (⟨"RutWays$Tokens", "isSame", "(III)Z"⟩, 8), (⟨"RutWays$Tokens", "keep", "(III)V"⟩, 8), (⟨"RutWays$Tokens", "takeDigits", "(I)I"⟩, 8), (⟨"RutWays$Reader", "readLandLine", "()Z"⟩, 6), (⟨"RutWays$Reader", "take", "(I)Z"⟩, 6), (⟨"RutWays$Reader", "refuse", "(I)Z"⟩, 6), (⟨"RutWays$Reader", "takeNumber", "(III)Z"⟩, 6), (⟨"RutWays$Reader", "takeLineEnd", "()Z"⟩, 6), (⟨"RutWays$Reader", "readLine", "()Z"⟩, 6), (⟨"RutWays$Reader", "readLane", "()Z"⟩, 6), (⟨"RutWays$Reader", "readFlag", "(I)Z"⟩, 6), (⟨"RutWays$Reader", "readCart", "()Z"⟩, 6)]
theorem lw_r1 : ∀ q ∈ lw_privs_1, lw_okq q := List.forall_mem_cons.mpr ⟨lw_p0, List.forall_mem_cons.mpr ⟨lw_p1, List.forall_mem_cons.mpr ⟨lw_p2, List.forall_mem_cons.mpr ⟨lw_p3, List.forall_mem_cons.mpr ⟨lw_p4, List.forall_mem_cons.mpr ⟨lw_p5, List.forall_mem_cons.mpr ⟨lw_p6, List.forall_mem_cons.mpr ⟨lw_p7, List.forall_mem_cons.mpr ⟨lw_p8, List.forall_mem_cons.mpr ⟨lw_p9, List.forall_mem_cons.mpr ⟨lw_p10, List.forall_mem_cons.mpr ⟨lw_p11, List.forall_mem_cons.mpr ⟨lw_p12, List.forall_mem_cons.mpr ⟨lw_p13, List.forall_mem_cons.mpr ⟨lw_p14, List.forall_mem_cons.mpr ⟨lw_p15, fun _ h => absurd h List.not_mem_nil⟩⟩⟩⟩⟩⟩⟩⟩⟩⟩⟩⟩⟩⟩⟩⟩
theorem lw_p16 : lw_okq (⟨"RutWays$Reader", "readPerson", "()Z"⟩, 6) := ⟨⟨by decide +kernel, by decide +kernel⟩, List.mem_of_getElem? (i := 32) (by decide +kernel), List.mem_of_getElem? (i := 630) (by decide +kernel), List.mem_of_getElem? (i := 631) (by decide +kernel)⟩
theorem lw_p17 : lw_okq (⟨"RutWays$Reader", "readRain", "()Z"⟩, 6) := ⟨⟨by decide +kernel, by decide +kernel⟩, List.mem_of_getElem? (i := 32) (by decide +kernel), List.mem_of_getElem? (i := 634) (by decide +kernel), List.mem_of_getElem? (i := 635) (by decide +kernel)⟩
theorem lw_p18 : lw_okq (⟨"RutWays$Reader", "readWears", "()Z"⟩, 6) := ⟨⟨by decide +kernel, by decide +kernel⟩, List.mem_of_getElem? (i := 32) (by decide +kernel), List.mem_of_getElem? (i := 638) (by decide +kernel), List.mem_of_getElem? (i := 639) (by decide +kernel)⟩
theorem lw_p19 : lw_okq (⟨"RutWays$Reader", "readSum", "(I)Z"⟩, 6) := ⟨⟨by decide +kernel, by decide +kernel⟩, List.mem_of_getElem? (i := 32) (by decide +kernel), List.mem_of_getElem? (i := 646) (by decide +kernel), List.mem_of_getElem? (i := 647) (by decide +kernel)⟩
theorem lw_p20 : lw_okq (⟨"RutWays$Reader", "readTerm", "(I)Z"⟩, 6) := ⟨⟨by decide +kernel, by decide +kernel⟩, List.mem_of_getElem? (i := 32) (by decide +kernel), List.mem_of_getElem? (i := 650) (by decide +kernel), List.mem_of_getElem? (i := 651) (by decide +kernel)⟩
theorem lw_p21 : lw_okq (⟨"RutWays$Reader", "readAtom", "(I)Z"⟩, 6) := ⟨⟨by decide +kernel, by decide +kernel⟩, List.mem_of_getElem? (i := 32) (by decide +kernel), List.mem_of_getElem? (i := 654) (by decide +kernel), List.mem_of_getElem? (i := 655) (by decide +kernel)⟩
theorem lw_p22 : lw_okq (⟨"RutWays$Reader", "addAtom", "(II)Z"⟩, 6) := ⟨⟨by decide +kernel, by decide +kernel⟩, List.mem_of_getElem? (i := 32) (by decide +kernel), List.mem_of_getElem? (i := 658) (by decide +kernel), List.mem_of_getElem? (i := 659) (by decide +kernel)⟩
theorem lw_p23 : lw_okq (⟨"RutWays$Reader", "takeOpening", "(I)Z"⟩, 6) := ⟨⟨by decide +kernel, by decide +kernel⟩, List.mem_of_getElem? (i := 32) (by decide +kernel), List.mem_of_getElem? (i := 666) (by decide +kernel), List.mem_of_getElem? (i := 667) (by decide +kernel)⟩
theorem lw_p24 : lw_okq (⟨"RutWays$Reader", "readIf", "(I)Z"⟩, 6) := ⟨⟨by decide +kernel, by decide +kernel⟩, List.mem_of_getElem? (i := 32) (by decide +kernel), List.mem_of_getElem? (i := 670) (by decide +kernel), List.mem_of_getElem? (i := 671) (by decide +kernel)⟩
theorem lw_p25 : lw_okq (⟨"RutWays$Reader", "readTruth", "(I)Z"⟩, 6) := ⟨⟨by decide +kernel, by decide +kernel⟩, List.mem_of_getElem? (i := 32) (by decide +kernel), List.mem_of_getElem? (i := 674) (by decide +kernel), List.mem_of_getElem? (i := 675) (by decide +kernel)⟩
theorem lw_p26 : lw_okq (⟨"RutWays$Reader", "readBoth", "(I)Z"⟩, 6) := ⟨⟨by decide +kernel, by decide +kernel⟩, List.mem_of_getElem? (i := 32) (by decide +kernel), List.mem_of_getElem? (i := 678) (by decide +kernel), List.mem_of_getElem? (i := 679) (by decide +kernel)⟩
theorem lw_p27 : lw_okq (⟨"RutWays$Reader", "readUnit", "(I)Z"⟩, 6) := ⟨⟨by decide +kernel, by decide +kernel⟩, List.mem_of_getElem? (i := 32) (by decide +kernel), List.mem_of_getElem? (i := 682) (by decide +kernel), List.mem_of_getElem? (i := 683) (by decide +kernel)⟩
theorem lw_p28 : lw_okq (⟨"RutWays$Reader", "readMay", "()Z"⟩, 6) := ⟨⟨by decide +kernel, by decide +kernel⟩, List.mem_of_getElem? (i := 32) (by decide +kernel), List.mem_of_getElem? (i := 690) (by decide +kernel), List.mem_of_getElem? (i := 691) (by decide +kernel)⟩
theorem lw_p29 : lw_okq (⟨"RutWays$Laws", "push", "(I)V"⟩, 7) := ⟨⟨by decide +kernel, by decide +kernel⟩, List.mem_of_getElem? (i := 100) (by decide +kernel), List.mem_of_getElem? (i := 751) (by decide +kernel), List.mem_of_getElem? (i := 752) (by decide +kernel)⟩
theorem lw_p30 : lw_okq (⟨"RutWays$Laws", "pop", "()I"⟩, 7) := ⟨⟨by decide +kernel, by decide +kernel⟩, List.mem_of_getElem? (i := 100) (by decide +kernel), List.mem_of_getElem? (i := 755) (by decide +kernel), List.mem_of_getElem? (i := 756) (by decide +kernel)⟩
theorem lw_p31 : lw_okq (⟨"RutWays", "doOne", "(II)I"⟩, 16) := ⟨⟨by decide +kernel, by decide +kernel⟩, List.mem_of_getElem? (i := 24) (by decide +kernel), List.mem_of_getElem? (i := 807) (by decide +kernel), List.mem_of_getElem? (i := 808) (by decide +kernel)⟩
def lw_privs_2 : List (MethodName × Nat) := [(⟨"RutWays$Reader", "readPerson", "()Z"⟩, 6), (⟨"RutWays$Reader", "readRain", "()Z"⟩, 6), (⟨"RutWays$Reader", "readWears", "()Z"⟩, 6), (⟨"RutWays$Reader", "readSum", "(I)Z"⟩, 6), (⟨"RutWays$Reader", "readTerm", "(I)Z"⟩, 6), (⟨"RutWays$Reader", "readAtom", "(I)Z"⟩, 6), (⟨"RutWays$Reader", "addAtom", "(II)Z"⟩, 6), (⟨"RutWays$Reader", "takeOpening", "(I)Z"⟩, 6), (⟨"RutWays$Reader", "readIf", "(I)Z"⟩, 6), (⟨"RutWays$Reader", "readTruth", "(I)Z"⟩, 6), (⟨"RutWays$Reader", "readBoth", "(I)Z"⟩, 6), (⟨"RutWays$Reader", "readUnit", "(I)Z"⟩, 6), (⟨"RutWays$Reader", "readMay", "()Z"⟩, 6), (⟨"RutWays$Laws", "push", "(I)V"⟩, 7), (⟨"RutWays$Laws", "pop", "()I"⟩, 7), (⟨"RutWays", "doOne", "(II)I"⟩, 16)]
theorem lw_r2 : ∀ q ∈ lw_privs_2, lw_okq q := List.forall_mem_cons.mpr ⟨lw_p16, List.forall_mem_cons.mpr ⟨lw_p17, List.forall_mem_cons.mpr ⟨lw_p18, List.forall_mem_cons.mpr ⟨lw_p19, List.forall_mem_cons.mpr ⟨lw_p20, List.forall_mem_cons.mpr ⟨lw_p21, List.forall_mem_cons.mpr ⟨lw_p22, List.forall_mem_cons.mpr ⟨lw_p23, List.forall_mem_cons.mpr ⟨lw_p24, List.forall_mem_cons.mpr ⟨lw_p25, List.forall_mem_cons.mpr ⟨lw_p26, List.forall_mem_cons.mpr ⟨lw_p27, List.forall_mem_cons.mpr ⟨lw_p28, List.forall_mem_cons.mpr ⟨lw_p29, List.forall_mem_cons.mpr ⟨lw_p30, List.forall_mem_cons.mpr ⟨lw_p31, fun _ h => absurd h List.not_mem_nil⟩⟩⟩⟩⟩⟩⟩⟩⟩⟩⟩⟩⟩⟩⟩⟩
theorem lw_p32 : lw_okq (⟨"RutWays$Course", "goBy", "(I)V"⟩, 6) := ⟨⟨by decide +kernel, by decide +kernel⟩, List.mem_of_getElem? (i := 216) (by decide +kernel), List.mem_of_getElem? (i := 822) (by decide +kernel), List.mem_of_getElem? (i := 823) (by decide +kernel)⟩
theorem lw_p33 : lw_okq (⟨"RutWays$Course", "tryDepth", "(II)I"⟩, 6) := ⟨⟨by decide +kernel, by decide +kernel⟩, List.mem_of_getElem? (i := 216) (by decide +kernel), List.mem_of_getElem? (i := 827) (by decide +kernel), List.mem_of_getElem? (i := 828) (by decide +kernel)⟩
theorem lw_p34 : lw_okq (⟨"RutWays$Course", "tryTurning", "(I)I"⟩, 6) := ⟨⟨by decide +kernel, by decide +kernel⟩, List.mem_of_getElem? (i := 216) (by decide +kernel), List.mem_of_getElem? (i := 831) (by decide +kernel), List.mem_of_getElem? (i := 832) (by decide +kernel)⟩
theorem lw_p35 : lw_okq (⟨"RutWays", "trayOf", "(I)LRutWays$Tray;"⟩, 16) := ⟨⟨by decide +kernel, by decide +kernel⟩, List.mem_of_getElem? (i := 24) (by decide +kernel), List.mem_of_getElem? (i := 887) (by decide +kernel), List.mem_of_getElem? (i := 888) (by decide +kernel)⟩
theorem lw_p36 : lw_okq (⟨"RutWays$Paths", "measure", "(LRutWays$Land;I)V"⟩, 2) := ⟨⟨by decide +kernel, by decide +kernel⟩, List.mem_of_getElem? (i := 299) (by decide +kernel), List.mem_of_getElem? (i := 939) (by decide +kernel), List.mem_of_getElem? (i := 940) (by decide +kernel)⟩
theorem lw_p37 : lw_okq (⟨"RutWays$Paths", "weightOf", "(I)I"⟩, 2) := ⟨⟨by decide +kernel, by decide +kernel⟩, List.mem_of_getElem? (i := 299) (by decide +kernel), List.mem_of_getElem? (i := 944) (by decide +kernel), List.mem_of_getElem? (i := 945) (by decide +kernel)⟩
theorem lw_p38 : lw_okq (⟨"RutWays$Paths", "relax", "(III)V"⟩, 2) := ⟨⟨by decide +kernel, by decide +kernel⟩, List.mem_of_getElem? (i := 299) (by decide +kernel), List.mem_of_getElem? (i := 948) (by decide +kernel), List.mem_of_getElem? (i := 949) (by decide +kernel)⟩
theorem lw_p39 : lw_okq (⟨"RutWays$RowCount", "rowsFrom", "(II)I"⟩, 7) := ⟨⟨by decide +kernel, by decide +kernel⟩, List.mem_of_getElem? (i := 312) (by decide +kernel), List.mem_of_getElem? (i := 968) (by decide +kernel), List.mem_of_getElem? (i := 969) (by decide +kernel)⟩
theorem lw_p40 : lw_okq (⟨"RutWays$RowCount", "pairsFrom", "(I)I"⟩, 7) := ⟨⟨by decide +kernel, by decide +kernel⟩, List.mem_of_getElem? (i := 312) (by decide +kernel), List.mem_of_getElem? (i := 973) (by decide +kernel), List.mem_of_getElem? (i := 974) (by decide +kernel)⟩
theorem lw_p41 : lw_okq (⟨"RutWays$RowCount", "isOpenAt", "(II)Z"⟩, 7) := ⟨⟨by decide +kernel, by decide +kernel⟩, List.mem_of_getElem? (i := 312) (by decide +kernel), List.mem_of_getElem? (i := 979) (by decide +kernel), List.mem_of_getElem? (i := 980) (by decide +kernel)⟩
theorem lw_p42 : lw_okq (⟨"RutWays$RowCount", "depthBehind", "(II)I"⟩, 7) := ⟨⟨by decide +kernel, by decide +kernel⟩, List.mem_of_getElem? (i := 312) (by decide +kernel), List.mem_of_getElem? (i := 983) (by decide +kernel), List.mem_of_getElem? (i := 984) (by decide +kernel)⟩
theorem lw_p43 : lw_okq (⟨"RutWays$Paths", "firstOnward", "(LRutWays$Land;I)I"⟩, 2) := ⟨⟨by decide +kernel, by decide +kernel⟩, List.mem_of_getElem? (i := 299) (by decide +kernel), List.mem_of_getElem? (i := 995) (by decide +kernel), List.mem_of_getElem? (i := 996) (by decide +kernel)⟩
theorem lw_p44 : lw_okq (⟨"RutWays", "leastShutting", "(I)I"⟩, 16) := ⟨⟨by decide +kernel, by decide +kernel⟩, List.mem_of_getElem? (i := 24) (by decide +kernel), List.mem_of_getElem? (i := 1048) (by decide +kernel), List.mem_of_getElem? (i := 1049) (by decide +kernel)⟩
theorem lw_p45 : lw_okq (⟨"RutWays", "seasonsOfTurning", "()I"⟩, 16) := ⟨⟨by decide +kernel, by decide +kernel⟩, List.mem_of_getElem? (i := 24) (by decide +kernel), List.mem_of_getElem? (i := 1061) (by decide +kernel), List.mem_of_getElem? (i := 1062) (by decide +kernel)⟩
theorem lw_p46 : lw_okq (⟨"RutWays", "leastStarting", "()I"⟩, 16) := ⟨⟨by decide +kernel, by decide +kernel⟩, List.mem_of_getElem? (i := 24) (by decide +kernel), List.mem_of_getElem? (i := 1074) (by decide +kernel), List.mem_of_getElem? (i := 1075) (by decide +kernel)⟩
theorem lw_p47 : lw_okq (⟨"RutWays", "whyNotWorn", "(LRutWays$Tray;)I"⟩, 16) := ⟨⟨by decide +kernel, by decide +kernel⟩, List.mem_of_getElem? (i := 24) (by decide +kernel), List.mem_of_getElem? (i := 1082) (by decide +kernel), List.mem_of_getElem? (i := 1083) (by decide +kernel)⟩
def lw_privs_3 : List (MethodName × Nat) := [(⟨"RutWays$Course", "goBy", "(I)V"⟩, 6), (⟨"RutWays$Course", "tryDepth", "(II)I"⟩, 6), (⟨"RutWays$Course", "tryTurning", "(I)I"⟩, 6), (⟨"RutWays", "trayOf", "(I)LRutWays$Tray;"⟩, 16), (⟨"RutWays$Paths", "measure", "(LRutWays$Land;I)V"⟩, 2), (⟨"RutWays$Paths", "weightOf", "(I)I"⟩, 2), (⟨"RutWays$Paths", "relax", "(III)V"⟩, 2), (⟨"RutWays$RowCount", "rowsFrom", "(II)I"⟩, 7), (⟨"RutWays$RowCount", "pairsFrom", "(I)I"⟩, 7), (⟨"RutWays$RowCount", "isOpenAt", "(II)Z"⟩, 7), (⟨"RutWays$RowCount", "depthBehind", "(II)I"⟩, 7), (⟨"RutWays$Paths", "firstOnward", "(LRutWays$Land;I)I"⟩, 2), (⟨"RutWays", "leastShutting", "(I)I"⟩, 16), (⟨"RutWays", "seasonsOfTurning", "()I"⟩, 16), (⟨"RutWays", "leastStarting", "()I"⟩, 16), (⟨"RutWays", "whyNotWorn", "(LRutWays$Tray;)I"⟩, 16)]
theorem lw_r3 : ∀ q ∈ lw_privs_3, lw_okq q := List.forall_mem_cons.mpr ⟨lw_p32, List.forall_mem_cons.mpr ⟨lw_p33, List.forall_mem_cons.mpr ⟨lw_p34, List.forall_mem_cons.mpr ⟨lw_p35, List.forall_mem_cons.mpr ⟨lw_p36, List.forall_mem_cons.mpr ⟨lw_p37, List.forall_mem_cons.mpr ⟨lw_p38, List.forall_mem_cons.mpr ⟨lw_p39, List.forall_mem_cons.mpr ⟨lw_p40, List.forall_mem_cons.mpr ⟨lw_p41, List.forall_mem_cons.mpr ⟨lw_p42, List.forall_mem_cons.mpr ⟨lw_p43, List.forall_mem_cons.mpr ⟨lw_p44, List.forall_mem_cons.mpr ⟨lw_p45, List.forall_mem_cons.mpr ⟨lw_p46, List.forall_mem_cons.mpr ⟨lw_p47, fun _ h => absurd h List.not_mem_nil⟩⟩⟩⟩⟩⟩⟩⟩⟩⟩⟩⟩⟩⟩⟩⟩
theorem lw_p48 : lw_okq (⟨"RutWays", "rainsBy", "(LRutWays$Tray;)I"⟩, 16) := ⟨⟨by decide +kernel, by decide +kernel⟩, List.mem_of_getElem? (i := 24) (by decide +kernel), List.mem_of_getElem? (i := 1088) (by decide +kernel), List.mem_of_getElem? (i := 1089) (by decide +kernel)⟩
theorem lw_p49 : lw_okq (⟨"RutWays", "wornByRain", "(II)I"⟩, 16) := ⟨⟨by decide +kernel, by decide +kernel⟩, List.mem_of_getElem? (i := 24) (by decide +kernel), List.mem_of_getElem? (i := 1092) (by decide +kernel), List.mem_of_getElem? (i := 1093) (by decide +kernel)⟩
theorem lw_p50 : lw_okq (⟨"RutWays", "mostAlike", "(II)I"⟩, 16) := ⟨⟨by decide +kernel, by decide +kernel⟩, List.mem_of_getElem? (i := 24) (by decide +kernel), List.mem_of_getElem? (i := 1100) (by decide +kernel), List.mem_of_getElem? (i := 1101) (by decide +kernel)⟩
theorem lw_p51 : lw_okq (⟨"RutWays$Duel", "wonBehind", "(LRutWays$Land;II)I"⟩, 1) := ⟨⟨by decide +kernel, by decide +kernel⟩, List.mem_of_getElem? (i := 341) (by decide +kernel), List.mem_of_getElem? (i := 1114) (by decide +kernel), List.mem_of_getElem? (i := 1115) (by decide +kernel)⟩
theorem lw_p52 : lw_okq (⟨"RutWays$Duel", "leadsToLoss", "(LRutWays$Land;IIII)Z"⟩, 1) := ⟨⟨by decide +kernel, by decide +kernel⟩, List.mem_of_getElem? (i := 341) (by decide +kernel), List.mem_of_getElem? (i := 1118) (by decide +kernel), List.mem_of_getElem? (i := 1119) (by decide +kernel)⟩
theorem lw_p53 : lw_okq (⟨"RutWays$Odds", "putWhole", "(I)V"⟩, 3) := ⟨⟨by decide +kernel, by decide +kernel⟩, List.mem_of_getElem? (i := 351) (by decide +kernel), List.mem_of_getElem? (i := 1137) (by decide +kernel), List.mem_of_getElem? (i := 1138) (by decide +kernel)⟩
theorem lw_p54 : lw_okq (⟨"RutWays$Odds", "throughTo", "(LRutWays$Land;II)I"⟩, 3) := ⟨⟨by decide +kernel, by decide +kernel⟩, List.mem_of_getElem? (i := 351) (by decide +kernel), List.mem_of_getElem? (i := 1141) (by decide +kernel), List.mem_of_getElem? (i := 1142) (by decide +kernel)⟩
theorem lw_p55 : lw_okq (⟨"RutWays$Odds", "raise", "(II)V"⟩, 3) := ⟨⟨by decide +kernel, by decide +kernel⟩, List.mem_of_getElem? (i := 351) (by decide +kernel), List.mem_of_getElem? (i := 1146) (by decide +kernel), List.mem_of_getElem? (i := 1147) (by decide +kernel)⟩
theorem lw_p56 : lw_okq (⟨"RutWays$Tray", "cutToSort", "(J)J"⟩, 4) := ⟨⟨by decide +kernel, by decide +kernel⟩, List.mem_of_getElem? (i := 277) (by decide +kernel), List.mem_of_getElem? (i := 1196) (by decide +kernel), List.mem_of_getElem? (i := 1197) (by decide +kernel)⟩
theorem lw_p57 : lw_okq (⟨"RutWays", "pictureOf", "(I)LRutWays$Course;"⟩, 16) := ⟨⟨by decide +kernel, by decide +kernel⟩, List.mem_of_getElem? (i := 24) (by decide +kernel), List.mem_of_getElem? (i := 1209) (by decide +kernel), List.mem_of_getElem? (i := 1210) (by decide +kernel)⟩
theorem lw_p58 : lw_okq (⟨"RutWaysModel", "next", "()V"⟩, 32) := ⟨⟨by decide +kernel, by decide +kernel⟩, List.mem_of_getElem? (i := 1221) (by decide +kernel), List.mem_of_getElem? (i := 1338) (by decide +kernel), List.mem_of_getElem? (i := 1339) (by decide +kernel)⟩
theorem lw_p59 : lw_okq (⟨"RutWaysModel", "see", "(I)I"⟩, 32) := ⟨⟨by decide +kernel, by decide +kernel⟩, List.mem_of_getElem? (i := 1221) (by decide +kernel), List.mem_of_getElem? (i := 1342) (by decide +kernel), List.mem_of_getElem? (i := 1343) (by decide +kernel)⟩
theorem lw_p60 : lw_okq (⟨"RutWaysModel", "keyAt", "()I"⟩, 32) := ⟨⟨by decide +kernel, by decide +kernel⟩, List.mem_of_getElem? (i := 1221) (by decide +kernel), List.mem_of_getElem? (i := 1349) (by decide +kernel), List.mem_of_getElem? (i := 1350) (by decide +kernel)⟩
theorem lw_p61 : lw_okq (⟨"RutWaysModel", "eats", "(I)Z"⟩, 32) := ⟨⟨by decide +kernel, by decide +kernel⟩, List.mem_of_getElem? (i := 1221) (by decide +kernel), List.mem_of_getElem? (i := 1360) (by decide +kernel), List.mem_of_getElem? (i := 1361) (by decide +kernel)⟩
theorem lw_p62 : lw_okq (⟨"RutWaysModel", "is", "(I)Z"⟩, 32) := ⟨⟨by decide +kernel, by decide +kernel⟩, List.mem_of_getElem? (i := 1221) (by decide +kernel), List.mem_of_getElem? (i := 1364) (by decide +kernel), List.mem_of_getElem? (i := 1365) (by decide +kernel)⟩
theorem lw_p63 : lw_okq (⟨"RutWaysModel", "fails", "(I)V"⟩, 32) := ⟨⟨by decide +kernel, by decide +kernel⟩, List.mem_of_getElem? (i := 1221) (by decide +kernel), List.mem_of_getElem? (i := 1368) (by decide +kernel), List.mem_of_getElem? (i := 1369) (by decide +kernel)⟩
def lw_privs_4 : List (MethodName × Nat) := [(⟨"RutWays", "rainsBy", "(LRutWays$Tray;)I"⟩, 16), (⟨"RutWays", "wornByRain", "(II)I"⟩, 16), (⟨"RutWays", "mostAlike", "(II)I"⟩, 16), (⟨"RutWays$Duel", "wonBehind", "(LRutWays$Land;II)I"⟩, 1), (⟨"RutWays$Duel", "leadsToLoss", "(LRutWays$Land;IIII)Z"⟩, 1), (⟨"RutWays$Odds", "putWhole", "(I)V"⟩, 3), (⟨"RutWays$Odds", "throughTo", "(LRutWays$Land;II)I"⟩, 3), (⟨"RutWays$Odds", "raise", "(II)V"⟩, 3), (⟨"RutWays$Tray", "cutToSort", "(J)J"⟩, 4), (⟨"RutWays", "pictureOf", "(I)LRutWays$Course;"⟩, 16), (⟨"RutWaysModel", "next", "()V"⟩, 32), (⟨"RutWaysModel", "see", "(I)I"⟩, 32), (⟨"RutWaysModel", "keyAt", "()I"⟩, 32), (⟨"RutWaysModel", "eats", "(I)Z"⟩, 32), (⟨"RutWaysModel", "is", "(I)Z"⟩, 32), (⟨"RutWaysModel", "fails", "(I)V"⟩, 32)]
theorem lw_r4 : ∀ q ∈ lw_privs_4, lw_okq q := List.forall_mem_cons.mpr ⟨lw_p48, List.forall_mem_cons.mpr ⟨lw_p49, List.forall_mem_cons.mpr ⟨lw_p50, List.forall_mem_cons.mpr ⟨lw_p51, List.forall_mem_cons.mpr ⟨lw_p52, List.forall_mem_cons.mpr ⟨lw_p53, List.forall_mem_cons.mpr ⟨lw_p54, List.forall_mem_cons.mpr ⟨lw_p55, List.forall_mem_cons.mpr ⟨lw_p56, List.forall_mem_cons.mpr ⟨lw_p57, List.forall_mem_cons.mpr ⟨lw_p58, List.forall_mem_cons.mpr ⟨lw_p59, List.forall_mem_cons.mpr ⟨lw_p60, List.forall_mem_cons.mpr ⟨lw_p61, List.forall_mem_cons.mpr ⟨lw_p62, List.forall_mem_cons.mpr ⟨lw_p63, fun _ h => absurd h List.not_mem_nil⟩⟩⟩⟩⟩⟩⟩⟩⟩⟩⟩⟩⟩⟩⟩⟩
theorem lw_p64 : lw_okq (⟨"RutWaysModel", "named", "(III)I"⟩, 32) := ⟨⟨by decide +kernel, by decide +kernel⟩, List.mem_of_getElem? (i := 1221) (by decide +kernel), List.mem_of_getElem? (i := 1372) (by decide +kernel), List.mem_of_getElem? (i := 1373) (by decide +kernel)⟩
theorem lw_p65 : lw_okq (⟨"RutWaysModel", "takes", "(II)I"⟩, 32) := ⟨⟨by decide +kernel, by decide +kernel⟩, List.mem_of_getElem? (i := 1221) (by decide +kernel), List.mem_of_getElem? (i := 1376) (by decide +kernel), List.mem_of_getElem? (i := 1377) (by decide +kernel)⟩
theorem lw_p66 : lw_okq (⟨"RutWaysModel", "closes", "()V"⟩, 32) := ⟨⟨by decide +kernel, by decide +kernel⟩, List.mem_of_getElem? (i := 1221) (by decide +kernel), List.mem_of_getElem? (i := 1380) (by decide +kernel), List.mem_of_getElem? (i := 1381) (by decide +kernel)⟩
theorem lw_p67 : lw_okq (⟨"RutWaysModel", "readLine", "()V"⟩, 32) := ⟨⟨by decide +kernel, by decide +kernel⟩, List.mem_of_getElem? (i := 1221) (by decide +kernel), List.mem_of_getElem? (i := 1384) (by decide +kernel), List.mem_of_getElem? (i := 1385) (by decide +kernel)⟩
theorem lw_p68 : lw_okq (⟨"RutWaysModel", "readLane", "()V"⟩, 32) := ⟨⟨by decide +kernel, by decide +kernel⟩, List.mem_of_getElem? (i := 1221) (by decide +kernel), List.mem_of_getElem? (i := 1388) (by decide +kernel), List.mem_of_getElem? (i := 1389) (by decide +kernel)⟩
theorem lw_p69 : lw_okq (⟨"RutWaysModel", "readFlag", "(I)Z"⟩, 32) := ⟨⟨by decide +kernel, by decide +kernel⟩, List.mem_of_getElem? (i := 1221) (by decide +kernel), List.mem_of_getElem? (i := 1392) (by decide +kernel), List.mem_of_getElem? (i := 1393) (by decide +kernel)⟩
theorem lw_p70 : lw_okq (⟨"RutWaysModel", "readCart", "()V"⟩, 32) := ⟨⟨by decide +kernel, by decide +kernel⟩, List.mem_of_getElem? (i := 1221) (by decide +kernel), List.mem_of_getElem? (i := 1396) (by decide +kernel), List.mem_of_getElem? (i := 1397) (by decide +kernel)⟩
theorem lw_p71 : lw_okq (⟨"RutWaysModel", "readPerson", "()V"⟩, 32) := ⟨⟨by decide +kernel, by decide +kernel⟩, List.mem_of_getElem? (i := 1221) (by decide +kernel), List.mem_of_getElem? (i := 1400) (by decide +kernel), List.mem_of_getElem? (i := 1401) (by decide +kernel)⟩
theorem lw_p72 : lw_okq (⟨"RutWaysModel", "readLaw", "(I)V"⟩, 32) := ⟨⟨by decide +kernel, by decide +kernel⟩, List.mem_of_getElem? (i := 1221) (by decide +kernel), List.mem_of_getElem? (i := 1404) (by decide +kernel), List.mem_of_getElem? (i := 1405) (by decide +kernel)⟩
theorem lw_p73 : lw_okq (⟨"RutWaysModel", "readSum", "(I)V"⟩, 32) := ⟨⟨by decide +kernel, by decide +kernel⟩, List.mem_of_getElem? (i := 1221) (by decide +kernel), List.mem_of_getElem? (i := 1408) (by decide +kernel), List.mem_of_getElem? (i := 1409) (by decide +kernel)⟩
theorem lw_p74 : lw_okq (⟨"RutWaysModel", "readTerm", "(I)V"⟩, 32) := ⟨⟨by decide +kernel, by decide +kernel⟩, List.mem_of_getElem? (i := 1221) (by decide +kernel), List.mem_of_getElem? (i := 1412) (by decide +kernel), List.mem_of_getElem? (i := 1413) (by decide +kernel)⟩
theorem lw_p75 : lw_okq (⟨"RutWaysModel", "readAtom", "(I)V"⟩, 32) := ⟨⟨by decide +kernel, by decide +kernel⟩, List.mem_of_getElem? (i := 1221) (by decide +kernel), List.mem_of_getElem? (i := 1416) (by decide +kernel), List.mem_of_getElem? (i := 1417) (by decide +kernel)⟩
theorem lw_p76 : lw_okq (⟨"RutWaysModel", "codes", "(I)V"⟩, 32) := ⟨⟨by decide +kernel, by decide +kernel⟩, List.mem_of_getElem? (i := 1221) (by decide +kernel), List.mem_of_getElem? (i := 1420) (by decide +kernel), List.mem_of_getElem? (i := 1421) (by decide +kernel)⟩
theorem lw_p77 : lw_okq (⟨"RutWaysModel", "wordOf", "(I)I"⟩, 32) := ⟨⟨by decide +kernel, by decide +kernel⟩, List.mem_of_getElem? (i := 1221) (by decide +kernel), List.mem_of_getElem? (i := 1424) (by decide +kernel), List.mem_of_getElem? (i := 1425) (by decide +kernel)⟩
theorem lw_p78 : lw_okq (⟨"RutWaysModel", "goesIn", "(I)Z"⟩, 32) := ⟨⟨by decide +kernel, by decide +kernel⟩, List.mem_of_getElem? (i := 1221) (by decide +kernel), List.mem_of_getElem? (i := 1428) (by decide +kernel), List.mem_of_getElem? (i := 1429) (by decide +kernel)⟩
theorem lw_p79 : lw_okq (⟨"RutWaysModel", "readIf", "(I)V"⟩, 32) := ⟨⟨by decide +kernel, by decide +kernel⟩, List.mem_of_getElem? (i := 1221) (by decide +kernel), List.mem_of_getElem? (i := 1432) (by decide +kernel), List.mem_of_getElem? (i := 1433) (by decide +kernel)⟩
def lw_privs_5 : List (MethodName × Nat) := [(⟨"RutWaysModel", "named", "(III)I"⟩, 32), (⟨"RutWaysModel", "takes", "(II)I"⟩, 32), (⟨"RutWaysModel", "closes", "()V"⟩, 32), (⟨"RutWaysModel", "readLine", "()V"⟩, 32), (⟨"RutWaysModel", "readLane", "()V"⟩, 32), (⟨"RutWaysModel", "readFlag", "(I)Z"⟩, 32), (⟨"RutWaysModel", "readCart", "()V"⟩, 32), (⟨"RutWaysModel", "readPerson", "()V"⟩, 32), (⟨"RutWaysModel", "readLaw", "(I)V"⟩, 32), (⟨"RutWaysModel", "readSum", "(I)V"⟩, 32), (⟨"RutWaysModel", "readTerm", "(I)V"⟩, 32), (⟨"RutWaysModel", "readAtom", "(I)V"⟩, 32), (⟨"RutWaysModel", "codes", "(I)V"⟩, 32), (⟨"RutWaysModel", "wordOf", "(I)I"⟩, 32), (⟨"RutWaysModel", "goesIn", "(I)Z"⟩, 32), (⟨"RutWaysModel", "readIf", "(I)V"⟩, 32)]
theorem lw_r5 : ∀ q ∈ lw_privs_5, lw_okq q := List.forall_mem_cons.mpr ⟨lw_p64, List.forall_mem_cons.mpr ⟨lw_p65, List.forall_mem_cons.mpr ⟨lw_p66, List.forall_mem_cons.mpr ⟨lw_p67, List.forall_mem_cons.mpr ⟨lw_p68, List.forall_mem_cons.mpr ⟨lw_p69, List.forall_mem_cons.mpr ⟨lw_p70, List.forall_mem_cons.mpr ⟨lw_p71, List.forall_mem_cons.mpr ⟨lw_p72, List.forall_mem_cons.mpr ⟨lw_p73, List.forall_mem_cons.mpr ⟨lw_p74, List.forall_mem_cons.mpr ⟨lw_p75, List.forall_mem_cons.mpr ⟨lw_p76, List.forall_mem_cons.mpr ⟨lw_p77, List.forall_mem_cons.mpr ⟨lw_p78, List.forall_mem_cons.mpr ⟨lw_p79, fun _ h => absurd h List.not_mem_nil⟩⟩⟩⟩⟩⟩⟩⟩⟩⟩⟩⟩⟩⟩⟩⟩
theorem lw_p80 : lw_okq (⟨"RutWaysModel", "readTruth", "(I)V"⟩, 32) := ⟨⟨by decide +kernel, by decide +kernel⟩, List.mem_of_getElem? (i := 1221) (by decide +kernel), List.mem_of_getElem? (i := 1436) (by decide +kernel), List.mem_of_getElem? (i := 1437) (by decide +kernel)⟩
theorem lw_p81 : lw_okq (⟨"RutWaysModel", "readBoth", "(I)V"⟩, 32) := ⟨⟨by decide +kernel, by decide +kernel⟩, List.mem_of_getElem? (i := 1221) (by decide +kernel), List.mem_of_getElem? (i := 1440) (by decide +kernel), List.mem_of_getElem? (i := 1441) (by decide +kernel)⟩
theorem lw_p82 : lw_okq (⟨"RutWaysModel", "readUnit", "(I)V"⟩, 32) := ⟨⟨by decide +kernel, by decide +kernel⟩, List.mem_of_getElem? (i := 1221) (by decide +kernel), List.mem_of_getElem? (i := 1444) (by decide +kernel), List.mem_of_getElem? (i := 1445) (by decide +kernel)⟩
theorem lw_p83 : lw_okq (⟨"RutWaysModel", "isLane", "(J)Z"⟩, 32) := ⟨⟨by decide +kernel, by decide +kernel⟩, List.mem_of_getElem? (i := 1221) (by decide +kernel), List.mem_of_getElem? (i := 1456) (by decide +kernel), List.mem_of_getElem? (i := 1457) (by decide +kernel)⟩
theorem lw_p84 : lw_okq (⟨"RutWaysModel", "isOpen", "(I)Z"⟩, 32) := ⟨⟨by decide +kernel, by decide +kernel⟩, List.mem_of_getElem? (i := 1221) (by decide +kernel), List.mem_of_getElem? (i := 1460) (by decide +kernel), List.mem_of_getElem? (i := 1461) (by decide +kernel)⟩
theorem lw_p85 : lw_okq (⟨"RutWaysModel", "mayGo", "(II)Z"⟩, 32) := ⟨⟨by decide +kernel, by decide +kernel⟩, List.mem_of_getElem? (i := 1221) (by decide +kernel), List.mem_of_getElem? (i := 1464) (by decide +kernel), List.mem_of_getElem? (i := 1465) (by decide +kernel)⟩
theorem lw_p86 : lw_okq (⟨"RutWaysModel", "reckons", "(IIII)I"⟩, 32) := ⟨⟨by decide +kernel, by decide +kernel⟩, List.mem_of_getElem? (i := 1221) (by decide +kernel), List.mem_of_getElem? (i := 1468) (by decide +kernel), List.mem_of_getElem? (i := 1469) (by decide +kernel)⟩
theorem lw_p87 : lw_okq (⟨"RutWaysModel", "whyGo", "(J)I"⟩, 32) := ⟨⟨by decide +kernel, by decide +kernel⟩, List.mem_of_getElem? (i := 1221) (by decide +kernel), List.mem_of_getElem? (i := 1484) (by decide +kernel), List.mem_of_getElem? (i := 1485) (by decide +kernel)⟩
theorem lw_p88 : lw_okq (⟨"RutWaysModel", "otherEnd", "(II)I"⟩, 32) := ⟨⟨by decide +kernel, by decide +kernel⟩, List.mem_of_getElem? (i := 1221) (by decide +kernel), List.mem_of_getElem? (i := 1488) (by decide +kernel), List.mem_of_getElem? (i := 1489) (by decide +kernel)⟩
theorem lw_p89 : lw_okq (⟨"RutWaysModel", "wornTo", "(III)I"⟩, 32) := ⟨⟨by decide +kernel, by decide +kernel⟩, List.mem_of_getElem? (i := 1221) (by decide +kernel), List.mem_of_getElem? (i := 1496) (by decide +kernel), List.mem_of_getElem? (i := 1497) (by decide +kernel)⟩
theorem lw_p90 : lw_okq (⟨"RutWaysModel", "fillingsOf", "(I)I"⟩, 32) := ⟨⟨by decide +kernel, by decide +kernel⟩, List.mem_of_getElem? (i := 1221) (by decide +kernel), List.mem_of_getElem? (i := 1504) (by decide +kernel), List.mem_of_getElem? (i := 1505) (by decide +kernel)⟩
theorem lw_p91 : lw_okq (⟨"RutWaysModel", "stores", "()V"⟩, 32) := ⟨⟨by decide +kernel, by decide +kernel⟩, List.mem_of_getElem? (i := 1221) (by decide +kernel), List.mem_of_getElem? (i := 1512) (by decide +kernel), List.mem_of_getElem? (i := 1513) (by decide +kernel)⟩
theorem lw_p92 : lw_okq (⟨"RutWaysModel", "goes", "(I)V"⟩, 32) := ⟨⟨by decide +kernel, by decide +kernel⟩, List.mem_of_getElem? (i := 1221) (by decide +kernel), List.mem_of_getElem? (i := 1516) (by decide +kernel), List.mem_of_getElem? (i := 1517) (by decide +kernel)⟩
theorem lw_p93 : lw_okq (⟨"RutWaysModel", "notes", "()V"⟩, 32) := ⟨⟨by decide +kernel, by decide +kernel⟩, List.mem_of_getElem? (i := 1221) (by decide +kernel), List.mem_of_getElem? (i := 1520) (by decide +kernel), List.mem_of_getElem? (i := 1521) (by decide +kernel)⟩
theorem lw_p94 : lw_okq (⟨"RutWaysModel", "shovels", "(II)I"⟩, 32) := ⟨⟨by decide +kernel, by decide +kernel⟩, List.mem_of_getElem? (i := 1221) (by decide +kernel), List.mem_of_getElem? (i := 1528) (by decide +kernel), List.mem_of_getElem? (i := 1529) (by decide +kernel)⟩
theorem lw_p95 : lw_okq (⟨"RutWaysModel", "whyRut", "(JI)I"⟩, 32) := ⟨⟨by decide +kernel, by decide +kernel⟩, List.mem_of_getElem? (i := 1221) (by decide +kernel), List.mem_of_getElem? (i := 1532) (by decide +kernel), List.mem_of_getElem? (i := 1533) (by decide +kernel)⟩
def lw_privs_6 : List (MethodName × Nat) := [(⟨"RutWaysModel", "readTruth", "(I)V"⟩, 32), (⟨"RutWaysModel", "readBoth", "(I)V"⟩, 32), (⟨"RutWaysModel", "readUnit", "(I)V"⟩, 32), (⟨"RutWaysModel", "isLane", "(J)Z"⟩, 32), (⟨"RutWaysModel", "isOpen", "(I)Z"⟩, 32), (⟨"RutWaysModel", "mayGo", "(II)Z"⟩, 32), (⟨"RutWaysModel", "reckons", "(IIII)I"⟩, 32), (⟨"RutWaysModel", "whyGo", "(J)I"⟩, 32), (⟨"RutWaysModel", "otherEnd", "(II)I"⟩, 32), (⟨"RutWaysModel", "wornTo", "(III)I"⟩, 32), (⟨"RutWaysModel", "fillingsOf", "(I)I"⟩, 32), (⟨"RutWaysModel", "stores", "()V"⟩, 32), (⟨"RutWaysModel", "goes", "(I)V"⟩, 32), (⟨"RutWaysModel", "notes", "()V"⟩, 32), (⟨"RutWaysModel", "shovels", "(II)I"⟩, 32), (⟨"RutWaysModel", "whyRut", "(JI)I"⟩, 32)]
theorem lw_r6 : ∀ q ∈ lw_privs_6, lw_okq q := List.forall_mem_cons.mpr ⟨lw_p80, List.forall_mem_cons.mpr ⟨lw_p81, List.forall_mem_cons.mpr ⟨lw_p82, List.forall_mem_cons.mpr ⟨lw_p83, List.forall_mem_cons.mpr ⟨lw_p84, List.forall_mem_cons.mpr ⟨lw_p85, List.forall_mem_cons.mpr ⟨lw_p86, List.forall_mem_cons.mpr ⟨lw_p87, List.forall_mem_cons.mpr ⟨lw_p88, List.forall_mem_cons.mpr ⟨lw_p89, List.forall_mem_cons.mpr ⟨lw_p90, List.forall_mem_cons.mpr ⟨lw_p91, List.forall_mem_cons.mpr ⟨lw_p92, List.forall_mem_cons.mpr ⟨lw_p93, List.forall_mem_cons.mpr ⟨lw_p94, List.forall_mem_cons.mpr ⟨lw_p95, fun _ h => absurd h List.not_mem_nil⟩⟩⟩⟩⟩⟩⟩⟩⟩⟩⟩⟩⟩⟩⟩⟩
theorem lw_p96 : lw_okq (⟨"RutWaysModel", "isPerson", "(J)Z"⟩, 32) := ⟨⟨by decide +kernel, by decide +kernel⟩, List.mem_of_getElem? (i := 1221) (by decide +kernel), List.mem_of_getElem? (i := 1544) (by decide +kernel), List.mem_of_getElem? (i := 1545) (by decide +kernel)⟩
theorem lw_p97 : lw_okq (⟨"RutWaysModel", "seasonTo", "(I)I"⟩, 32) := ⟨⟨by decide +kernel, by decide +kernel⟩, List.mem_of_getElem? (i := 1221) (by decide +kernel), List.mem_of_getElem? (i := 1553) (by decide +kernel), List.mem_of_getElem? (i := 1554) (by decide +kernel)⟩
theorem lw_p98 : lw_okq (⟨"RutWaysModel", "noTray", "(I)I"⟩, 32) := ⟨⟨by decide +kernel, by decide +kernel⟩, List.mem_of_getElem? (i := 1221) (by decide +kernel), List.mem_of_getElem? (i := 1572) (by decide +kernel), List.mem_of_getElem? (i := 1573) (by decide +kernel)⟩
theorem lw_p99 : lw_okq (⟨"RutWaysModel", "tells", "(I)I"⟩, 32) := ⟨⟨by decide +kernel, by decide +kernel⟩, List.mem_of_getElem? (i := 1221) (by decide +kernel), List.mem_of_getElem? (i := 1576) (by decide +kernel), List.mem_of_getElem? (i := 1577) (by decide +kernel)⟩
theorem lw_p100 : lw_okq (⟨"RutWaysModel", "whyNot", "(J)I"⟩, 32) := ⟨⟨by decide +kernel, by decide +kernel⟩, List.mem_of_getElem? (i := 1221) (by decide +kernel), List.mem_of_getElem? (i := 1580) (by decide +kernel), List.mem_of_getElem? (i := 1581) (by decide +kernel)⟩
theorem lw_p101 : lw_okq (⟨"RutWaysModel", "does", "(I)V"⟩, 32) := ⟨⟨by decide +kernel, by decide +kernel⟩, List.mem_of_getElem? (i := 1221) (by decide +kernel), List.mem_of_getElem? (i := 1591) (by decide +kernel), List.mem_of_getElem? (i := 1592) (by decide +kernel)⟩
theorem lw_p102 : lw_okq (⟨"RutWaysModel", "depthSum", "()I"⟩, 32) := ⟨⟨by decide +kernel, by decide +kernel⟩, List.mem_of_getElem? (i := 1221) (by decide +kernel), List.mem_of_getElem? (i := 1595) (by decide +kernel), List.mem_of_getElem? (i := 1596) (by decide +kernel)⟩
theorem lw_p103 : lw_okq (⟨"RutWaysModel", "isAgain", "()V"⟩, 32) := ⟨⟨by decide +kernel, by decide +kernel⟩, List.mem_of_getElem? (i := 1221) (by decide +kernel), List.mem_of_getElem? (i := 1599) (by decide +kernel), List.mem_of_getElem? (i := 1600) (by decide +kernel)⟩
theorem lw_p104 : lw_okq (⟨"RutWaysModel", "drawn", "()I"⟩, 32) := ⟨⟨by decide +kernel, by decide +kernel⟩, List.mem_of_getElem? (i := 1221) (by decide +kernel), List.mem_of_getElem? (i := 1611) (by decide +kernel), List.mem_of_getElem? (i := 1612) (by decide +kernel)⟩
theorem lw_p105 : lw_okq (⟨"RutWaysModel", "draw", "(I)I"⟩, 32) := ⟨⟨by decide +kernel, by decide +kernel⟩, List.mem_of_getElem? (i := 1221) (by decide +kernel), List.mem_of_getElem? (i := 1615) (by decide +kernel), List.mem_of_getElem? (i := 1616) (by decide +kernel)⟩
theorem lw_p106 : lw_okq (⟨"RutWaysModel", "everyLane", "()I"⟩, 32) := ⟨⟨by decide +kernel, by decide +kernel⟩, List.mem_of_getElem? (i := 1221) (by decide +kernel), List.mem_of_getElem? (i := 1624) (by decide +kernel), List.mem_of_getElem? (i := 1625) (by decide +kernel)⟩
theorem lw_p107 : lw_okq (⟨"RutWaysModel", "laysFar", "(I)V"⟩, 32) := ⟨⟨by decide +kernel, by decide +kernel⟩, List.mem_of_getElem? (i := 1221) (by decide +kernel), List.mem_of_getElem? (i := 1628) (by decide +kernel), List.mem_of_getElem? (i := 1629) (by decide +kernel)⟩
theorem lw_p108 : lw_okq (⟨"RutWaysModel", "nearer", "(II)Z"⟩, 32) := ⟨⟨by decide +kernel, by decide +kernel⟩, List.mem_of_getElem? (i := 1221) (by decide +kernel), List.mem_of_getElem? (i := 1636) (by decide +kernel), List.mem_of_getElem? (i := 1637) (by decide +kernel)⟩
theorem lw_p109 : lw_okq (⟨"RutWaysModel", "isPlace", "(I)Z"⟩, 32) := ⟨⟨by decide +kernel, by decide +kernel⟩, List.mem_of_getElem? (i := 1221) (by decide +kernel), List.mem_of_getElem? (i := 1644) (by decide +kernel), List.mem_of_getElem? (i := 1645) (by decide +kernel)⟩
theorem lw_p110 : lw_okq (⟨"RutWaysModel", "rowsFrom", "(III)I"⟩, 32) := ⟨⟨by decide +kernel, by decide +kernel⟩, List.mem_of_getElem? (i := 1221) (by decide +kernel), List.mem_of_getElem? (i := 1656) (by decide +kernel), List.mem_of_getElem? (i := 1657) (by decide +kernel)⟩
theorem lw_p111 : lw_okq (⟨"RutWaysModel", "finds", "(IIII)Z"⟩, 32) := ⟨⟨by decide +kernel, by decide +kernel⟩, List.mem_of_getElem? (i := 1221) (by decide +kernel), List.mem_of_getElem? (i := 1664) (by decide +kernel), List.mem_of_getElem? (i := 1665) (by decide +kernel)⟩
def lw_privs_7 : List (MethodName × Nat) := [(⟨"RutWaysModel", "isPerson", "(J)Z"⟩, 32), (⟨"RutWaysModel", "seasonTo", "(I)I"⟩, 32), (⟨"RutWaysModel", "noTray", "(I)I"⟩, 32), (⟨"RutWaysModel", "tells", "(I)I"⟩, 32), (⟨"RutWaysModel", "whyNot", "(J)I"⟩, 32), (⟨"RutWaysModel", "does", "(I)V"⟩, 32), (⟨"RutWaysModel", "depthSum", "()I"⟩, 32), (⟨"RutWaysModel", "isAgain", "()V"⟩, 32), (⟨"RutWaysModel", "drawn", "()I"⟩, 32), (⟨"RutWaysModel", "draw", "(I)I"⟩, 32), (⟨"RutWaysModel", "everyLane", "()I"⟩, 32), (⟨"RutWaysModel", "laysFar", "(I)V"⟩, 32), (⟨"RutWaysModel", "nearer", "(II)Z"⟩, 32), (⟨"RutWaysModel", "isPlace", "(I)Z"⟩, 32), (⟨"RutWaysModel", "rowsFrom", "(III)I"⟩, 32), (⟨"RutWaysModel", "finds", "(IIII)Z"⟩, 32)]
theorem lw_r7 : ∀ q ∈ lw_privs_7, lw_okq q := List.forall_mem_cons.mpr ⟨lw_p96, List.forall_mem_cons.mpr ⟨lw_p97, List.forall_mem_cons.mpr ⟨lw_p98, List.forall_mem_cons.mpr ⟨lw_p99, List.forall_mem_cons.mpr ⟨lw_p100, List.forall_mem_cons.mpr ⟨lw_p101, List.forall_mem_cons.mpr ⟨lw_p102, List.forall_mem_cons.mpr ⟨lw_p103, List.forall_mem_cons.mpr ⟨lw_p104, List.forall_mem_cons.mpr ⟨lw_p105, List.forall_mem_cons.mpr ⟨lw_p106, List.forall_mem_cons.mpr ⟨lw_p107, List.forall_mem_cons.mpr ⟨lw_p108, List.forall_mem_cons.mpr ⟨lw_p109, List.forall_mem_cons.mpr ⟨lw_p110, List.forall_mem_cons.mpr ⟨lw_p111, fun _ h => absurd h List.not_mem_nil⟩⟩⟩⟩⟩⟩⟩⟩⟩⟩⟩⟩⟩⟩⟩⟩
theorem lw_p112 : lw_okq (⟨"RutWaysModel", "laysCost", "(I)I"⟩, 32) := ⟨⟨by decide +kernel, by decide +kernel⟩, List.mem_of_getElem? (i := 1221) (by decide +kernel), List.mem_of_getElem? (i := 1676) (by decide +kernel), List.mem_of_getElem? (i := 1677) (by decide +kernel)⟩
theorem lw_p113 : lw_okq (⟨"RutWaysModel", "costBy", "(II)I"⟩, 32) := ⟨⟨by decide +kernel, by decide +kernel⟩, List.mem_of_getElem? (i := 1221) (by decide +kernel), List.mem_of_getElem? (i := 1680) (by decide +kernel), List.mem_of_getElem? (i := 1681) (by decide +kernel)⟩
theorem lw_p114 : lw_okq (⟨"RutWaysModel", "costOf", "(I)I"⟩, 32) := ⟨⟨by decide +kernel, by decide +kernel⟩, List.mem_of_getElem? (i := 1221) (by decide +kernel), List.mem_of_getElem? (i := 1684) (by decide +kernel), List.mem_of_getElem? (i := 1685) (by decide +kernel)⟩
theorem lw_p115 : lw_okq (⟨"RutWaysModel", "laneAt", "(I)I"⟩, 32) := ⟨⟨by decide +kernel, by decide +kernel⟩, List.mem_of_getElem? (i := 1221) (by decide +kernel), List.mem_of_getElem? (i := 1692) (by decide +kernel), List.mem_of_getElem? (i := 1693) (by decide +kernel)⟩
theorem lw_p116 : lw_okq (⟨"RutWaysModel", "areJoined", "(I)Z"⟩, 32) := ⟨⟨by decide +kernel, by decide +kernel⟩, List.mem_of_getElem? (i := 1221) (by decide +kernel), List.mem_of_getElem? (i := 1700) (by decide +kernel), List.mem_of_getElem? (i := 1701) (by decide +kernel)⟩
theorem lw_p117 : lw_okq (⟨"RutWaysModel", "turnedTo", "(I)I"⟩, 32) := ⟨⟨by decide +kernel, by decide +kernel⟩, List.mem_of_getElem? (i := 1221) (by decide +kernel), List.mem_of_getElem? (i := 1712) (by decide +kernel), List.mem_of_getElem? (i := 1713) (by decide +kernel)⟩
theorem lw_p118 : lw_okq (⟨"RutWaysModel", "noWorn", "(I)I"⟩, 32) := ⟨⟨by decide +kernel, by decide +kernel⟩, List.mem_of_getElem? (i := 1221) (by decide +kernel), List.mem_of_getElem? (i := 1728) (by decide +kernel), List.mem_of_getElem? (i := 1729) (by decide +kernel)⟩
theorem lw_p119 : lw_okq (⟨"RutWaysModel", "rainsOf", "(I)I"⟩, 32) := ⟨⟨by decide +kernel, by decide +kernel⟩, List.mem_of_getElem? (i := 1221) (by decide +kernel), List.mem_of_getElem? (i := 1733) (by decide +kernel), List.mem_of_getElem? (i := 1734) (by decide +kernel)⟩
theorem lw_p120 : lw_okq (⟨"RutWaysModel", "mostOften", "(II)I"⟩, 32) := ⟨⟨by decide +kernel, by decide +kernel⟩, List.mem_of_getElem? (i := 1221) (by decide +kernel), List.mem_of_getElem? (i := 1741) (by decide +kernel), List.mem_of_getElem? (i := 1742) (by decide +kernel)⟩
theorem lw_p121 : lw_okq (⟨"RutWaysModel", "forgets", "()V"⟩, 32) := ⟨⟨by decide +kernel, by decide +kernel⟩, List.mem_of_getElem? (i := 1221) (by decide +kernel), List.mem_of_getElem? (i := 1749) (by decide +kernel), List.mem_of_getElem? (i := 1750) (by decide +kernel)⟩
theorem lw_p122 : lw_okq (⟨"RutWaysModel", "winsAt", "(II)Z"⟩, 32) := ⟨⟨by decide +kernel, by decide +kernel⟩, List.mem_of_getElem? (i := 1221) (by decide +kernel), List.mem_of_getElem? (i := 1753) (by decide +kernel), List.mem_of_getElem? (i := 1754) (by decide +kernel)⟩
theorem lw_p123 : lw_okq (⟨"RutWaysModel", "winsBy", "(III)Z"⟩, 32) := ⟨⟨by decide +kernel, by decide +kernel⟩, List.mem_of_getElem? (i := 1221) (by decide +kernel), List.mem_of_getElem? (i := 1757) (by decide +kernel), List.mem_of_getElem? (i := 1758) (by decide +kernel)⟩
theorem lw_p124 : lw_okq (⟨"RutWaysModel", "laysLikely", "(II)I"⟩, 32) := ⟨⟨by decide +kernel, by decide +kernel⟩, List.mem_of_getElem? (i := 1221) (by decide +kernel), List.mem_of_getElem? (i := 1770) (by decide +kernel), List.mem_of_getElem? (i := 1771) (by decide +kernel)⟩
theorem lw_p125 : lw_okq (⟨"RutWaysModel", "likelyBy", "(III)I"⟩, 32) := ⟨⟨by decide +kernel, by decide +kernel⟩, List.mem_of_getElem? (i := 1221) (by decide +kernel), List.mem_of_getElem? (i := 1777) (by decide +kernel), List.mem_of_getElem? (i := 1778) (by decide +kernel)⟩
def lw_privs_8 : List (MethodName × Nat) := [(⟨"RutWaysModel", "laysCost", "(I)I"⟩, 32), (⟨"RutWaysModel", "costBy", "(II)I"⟩, 32), (⟨"RutWaysModel", "costOf", "(I)I"⟩, 32), (⟨"RutWaysModel", "laneAt", "(I)I"⟩, 32), (⟨"RutWaysModel", "areJoined", "(I)Z"⟩, 32), (⟨"RutWaysModel", "turnedTo", "(I)I"⟩, 32), (⟨"RutWaysModel", "noWorn", "(I)I"⟩, 32), (⟨"RutWaysModel", "rainsOf", "(I)I"⟩, 32), (⟨"RutWaysModel", "mostOften", "(II)I"⟩, 32), (⟨"RutWaysModel", "forgets", "()V"⟩, 32), (⟨"RutWaysModel", "winsAt", "(II)Z"⟩, 32), (⟨"RutWaysModel", "winsBy", "(III)Z"⟩, 32), (⟨"RutWaysModel", "laysLikely", "(II)I"⟩, 32), (⟨"RutWaysModel", "likelyBy", "(III)I"⟩, 32)]
theorem lw_r8 : ∀ q ∈ lw_privs_8, lw_okq q := List.forall_mem_cons.mpr ⟨lw_p112, List.forall_mem_cons.mpr ⟨lw_p113, List.forall_mem_cons.mpr ⟨lw_p114, List.forall_mem_cons.mpr ⟨lw_p115, List.forall_mem_cons.mpr ⟨lw_p116, List.forall_mem_cons.mpr ⟨lw_p117, List.forall_mem_cons.mpr ⟨lw_p118, List.forall_mem_cons.mpr ⟨lw_p119, List.forall_mem_cons.mpr ⟨lw_p120, List.forall_mem_cons.mpr ⟨lw_p121, List.forall_mem_cons.mpr ⟨lw_p122, List.forall_mem_cons.mpr ⟨lw_p123, List.forall_mem_cons.mpr ⟨lw_p124, List.forall_mem_cons.mpr ⟨lw_p125, fun _ h => absurd h List.not_mem_nil⟩⟩⟩⟩⟩⟩⟩⟩⟩⟩⟩⟩⟩⟩
def lw_privs : List (MethodName × Nat) := lw_privs_1 ++ (lw_privs_2 ++ (lw_privs_3 ++ (lw_privs_4 ++ (lw_privs_5 ++ (lw_privs_6 ++ (lw_privs_7 ++ (lw_privs_8)))))))
def lw_tbl : List Cond := k2_sels lw_privs ++ tables_1
theorem lw_privs_ok : ∀ q ∈ lw_privs, lw_okq q := by
  show ∀ q ∈ lw_privs_1 ++ (lw_privs_2 ++ (lw_privs_3 ++ (lw_privs_4 ++ (lw_privs_5 ++ (lw_privs_6 ++ (lw_privs_7 ++ (lw_privs_8))))))), lw_okq q
  exact List.forall_mem_append.mpr ⟨lw_r1, List.forall_mem_append.mpr ⟨lw_r2, List.forall_mem_append.mpr ⟨lw_r3, List.forall_mem_append.mpr ⟨lw_r4, List.forall_mem_append.mpr ⟨lw_r5, List.forall_mem_append.mpr ⟨lw_r6, List.forall_mem_append.mpr ⟨lw_r7, lw_r8⟩⟩⟩⟩⟩⟩⟩

/-! ===== BEGIN words of one list among another's, by their places ===== -/
theorem goodIn_r {big : List Cond} (ws : List Cond) (ps : List Nat) (hp : ws = ps.filterMap (fun i => big[i]?)) (h : ws.all goodWord = true) : GoodIn big ws := by
  intro w hw
  have h1 := List.all_eq_true.mp h w hw
  rw [hp] at hw
  obtain ⟨i, -, hi⟩ := List.mem_filterMap.mp hw
  have hm : w ∈ big := by first | exact List.mem_of_getElem? hi | exact List.getElem?_mem hi
  exact ⟨hm, good_of_word h1⟩
theorem goodIn_app {big a b : List Cond} (ha : GoodIn big a) (hb : GoodIn big b) : GoodIn big (a ++ b) := fun w h => (List.mem_append.mp h).elim (ha w) (hb w)
theorem goodIn_ca {big a b : List Cond} {c : Cond} (ha : GoodIn big (c :: a)) (hb : GoodIn big b) : GoodIn big (c :: (a ++ b)) := fun w h => (List.mem_cons.mp h).elim (fun e => ha w (List.mem_cons.mpr (Or.inl e))) (fun h => (List.mem_append.mp h).elim (fun h => ha w (List.mem_cons.mpr (Or.inr h))) (hb w))
theorem goodIn_sub {big ws : List Cond} (hm : ∀ w ∈ ws, w ∈ big) (h : ws.all goodWord = true) : GoodIn big ws := fun w hw => ⟨hm w hw, good_of_word (List.all_eq_true.mp h w hw)⟩
/-! ===== END ===== -/

/-! ===== BEGIN printed: names, fields, word lists, decode rows ===== -/
def RX0 : String := "RutWays$Course"
def TX0 : u_T := fun k => match k with
  | 0 => ("RutWays$Course", "land", "LRutWays$Land;", false)
  | 1 => ("RutWays$Course", "cart", "I", false)
  | 2 => ("RutWays$Course", "rain", "I", false)
  | 3 => ("RutWays$Course", "back", "I", false)
  | 4 => ("RutWays$Course", "went", "I", false)
  | _ => ("RutWays$Course", "deep", "[I", true)
def tyX0 : Nat → FieldType := fun k => match k with
  | 0 => .object "RutWays$Land"
  | 1 => .int
  | 2 => .int
  | 3 => .int
  | 4 => .int
  | _ => .array .int
abbrev wsX00 : List Cond := u_ws RX0 TX0 6
theorem nmX0 : ∀ a, a < 6 → ∀ b, b < 6 → a ≠ b → (TX0 a).2.1 ≠ (TX0 b).2.1 := by decide +kernel
theorem tyX0_ok : ∀ k, k < 6 → parseFieldDescriptor (TX0 k).2.2.1 = some (tyX0 k) := by decide +kernel
abbrev cX0_init : ByteArray := prog_2_method_1_code
def yX0_init : MethodName := ⟨RX0, "<init>", "(LRutWays$Land;)V"⟩
abbrev cX0_beginIn : ByteArray := prog_2_method_2_code
def yX0_beginIn : MethodName := ⟨RX0, "beginIn", "(LRutWays$Land;)V"⟩
abbrev cX0_takeOver : ByteArray := prog_2_method_3_code
def yX0_takeOver : MethodName := ⟨RX0, "takeOver", "(LRutWays$Course;)V"⟩
abbrev cX0_depthOf : ByteArray := prog_2_method_4_code
def yX0_depthOf : MethodName := ⟨RX0, "depthOf", "(I)I"⟩
abbrev cX0_allDepths : ByteArray := prog_2_method_5_code
def yX0_allDepths : MethodName := ⟨RX0, "allDepths", "()I"⟩
abbrev cX0_isOpen : ByteArray := prog_2_method_6_code
def yX0_isOpen : MethodName := ⟨RX0, "isOpen", "(I)Z"⟩
abbrev cX0_openLanes : ByteArray := prog_2_method_7_code
def yX0_openLanes : MethodName := ⟨RX0, "openLanes", "()I"⟩
abbrev cX0_fillingsOf : ByteArray := prog_2_method_8_code
def yX0_fillingsOf : MethodName := ⟨RX0, "fillingsOf", "(I)I"⟩
abbrev cX0_whyNoGoing : ByteArray := prog_2_method_9_code
def yX0_whyNoGoing : MethodName := ⟨RX0, "whyNoGoing", "(I)I"⟩
abbrev cX0_tryDeed : ByteArray := prog_2_method_10_code
def yX0_tryDeed : MethodName := ⟨RX0, "tryDeed", "(J)I"⟩
abbrev cX0_goBy : ByteArray := prog_2_method_11_code
def yX0_goBy : MethodName := ⟨RX0, "goBy", "(I)V"⟩
abbrev cX0_tryDepth : ByteArray := prog_2_method_12_code
def yX0_tryDepth : MethodName := ⟨RX0, "tryDepth", "(II)I"⟩
abbrev cX0_tryTurning : ByteArray := prog_2_method_13_code
def yX0_tryTurning : MethodName := ⟨RX0, "tryTurning", "(I)I"⟩
def RX1 : String := "RutWays$Duel"
def TX1 : u_T := fun k => match k with
  | _ => ("RutWays$Duel", "won", "[I", true)
def tyX1 : Nat → FieldType := fun k => match k with
  | _ => .array .int
abbrev wsX10 : List Cond := u_ws RX1 TX1 1
theorem nmX1 : ∀ a, a < 1 → ∀ b, b < 1 → a ≠ b → (TX1 a).2.1 ≠ (TX1 b).2.1 := by decide +kernel
theorem tyX1_ok : ∀ k, k < 1 → parseFieldDescriptor (TX1 k).2.2.1 = some (tyX1 k) := by decide +kernel
abbrev cX1_init : ByteArray := prog_3_method_1_code
def yX1_init : MethodName := ⟨RX1, "<init>", "()V"⟩
abbrev cX1_firstWinning : ByteArray := prog_3_method_2_code
def yX1_firstWinning : MethodName := ⟨RX1, "firstWinning", "(LRutWays$Course;)I"⟩
abbrev cX1_wonBehind : ByteArray := prog_3_method_3_code
def yX1_wonBehind : MethodName := ⟨RX1, "wonBehind", "(LRutWays$Land;II)I"⟩
abbrev cX1_leadsToLoss : ByteArray := prog_3_method_4_code
def yX1_leadsToLoss : MethodName := ⟨RX1, "leadsToLoss", "(LRutWays$Land;IIII)Z"⟩
def RX2 : String := "RutWays$History"
def TX2 : u_T := fun k => match k with
  | 0 => ("RutWays$History", "ahead", "[LRutWays$Course;", true)
  | 1 => ("RutWays$History", "next", "I", false)
  | _ => ("RutWays$History", "size", "I", false)
def tyX2 : Nat → FieldType := fun k => match k with
  | 0 => .array (.object "RutWays$Course")
  | 1 => .int
  | _ => .int
abbrev wsX20 : List Cond := u_ws RX2 TX2 3
theorem nmX2 : ∀ a, a < 3 → ∀ b, b < 3 → a ≠ b → (TX2 a).2.1 ≠ (TX2 b).2.1 := by decide +kernel
theorem tyX2_ok : ∀ k, k < 3 → parseFieldDescriptor (TX2 k).2.2.1 = some (tyX2 k) := by decide +kernel
abbrev cX2_init : ByteArray := prog_4_method_1_code
def yX2_init : MethodName := ⟨RX2, "<init>", "(LRutWays$Land;)V"⟩
abbrev cX2_kept : ByteArray := prog_4_method_2_code
def yX2_kept : MethodName := ⟨RX2, "kept", "()I"⟩
abbrev cX2_forgetAll : ByteArray := prog_4_method_3_code
def yX2_forgetAll : MethodName := ⟨RX2, "forgetAll", "()V"⟩
abbrev cX2_keep : ByteArray := prog_4_method_4_code
def yX2_keep : MethodName := ⟨RX2, "keep", "(LRutWays$Course;)V"⟩
abbrev cX2_bringBack : ByteArray := prog_4_method_5_code
def yX2_bringBack : MethodName := ⟨RX2, "bringBack", "(ILRutWays$Course;)V"⟩
def RX3 : String := "RutWays$Land"
def TX3 : u_T := fun k => match k with
  | 0 => ("RutWays$Land", "places", "I", false)
  | 1 => ("RutWays$Land", "lanes", "I", false)
  | 2 => ("RutWays$Land", "people", "I", false)
  | 3 => ("RutWays$Land", "lines", "I", false)
  | 4 => ("RutWays$Land", "cart", "I", false)
  | 5 => ("RutWays$Land", "pull", "I", false)
  | 6 => ("RutWays$Land", "rain", "I", false)
  | 7 => ("RutWays$Land", "back", "I", false)
  | 8 => ("RutWays$Land", "one", "[I", true)
  | 9 => ("RutWays$Land", "two", "[I", true)
  | 10 => ("RutWays$Land", "deep", "[I", true)
  | 11 => ("RutWays$Land", "soft", "[I", true)
  | 12 => ("RutWays$Land", "risk", "[I", true)
  | 13 => ("RutWays$Land", "turns", "[I", true)
  | _ => ("RutWays$Land", "laws", "LRutWays$Laws;", true)
def tyX3 : Nat → FieldType := fun k => match k with
  | 0 => .int
  | 1 => .int
  | 2 => .int
  | 3 => .int
  | 4 => .int
  | 5 => .int
  | 6 => .int
  | 7 => .int
  | 8 => .array .int
  | 9 => .array .int
  | 10 => .array .int
  | 11 => .array .int
  | 12 => .array .int
  | 13 => .array .int
  | _ => .object "RutWays$Laws"
abbrev wsX30 : List Cond := u_ws RX3 TX3 15
theorem nmX3 : ∀ a, a < 15 → ∀ b, b < 15 → a ≠ b → (TX3 a).2.1 ≠ (TX3 b).2.1 := by decide +kernel
theorem tyX3_ok : ∀ k, k < 15 → parseFieldDescriptor (TX3 k).2.2.1 = some (tyX3 k) := by decide +kernel
abbrev cX3_init : ByteArray := prog_5_method_1_code
def yX3_init : MethodName := ⟨RX3, "<init>", "()V"⟩
abbrev cX3_makeEmpty : ByteArray := prog_5_method_2_code
def yX3_makeEmpty : MethodName := ⟨RX3, "makeEmpty", "()V"⟩
abbrev cX3_hasPlace : ByteArray := prog_5_method_3_code
def yX3_hasPlace : MethodName := ⟨RX3, "hasPlace", "(I)Z"⟩
abbrev cX3_hasLane : ByteArray := prog_5_method_4_code
def yX3_hasLane : MethodName := ⟨RX3, "hasLane", "(I)Z"⟩
abbrev cX3_otherEnd : ByteArray := prog_5_method_5_code
def yX3_otherEnd : MethodName := ⟨RX3, "otherEnd", "(II)I"⟩
abbrev cX3_mayGo : ByteArray := prog_5_method_6_code
def yX3_mayGo : MethodName := ⟨RX3, "mayGo", "(IILRutWays$Course;)Z"⟩
abbrev cX3_wornFrom : ByteArray := prog_5_method_7_code
def yX3_wornFrom : MethodName := ⟨RX3, "wornFrom", "(III)I"⟩
abbrev cX3_comingFrom : ByteArray := prog_5_method_8_code
def yX3_comingFrom : MethodName := ⟨RX3, "comingFrom", "(II)I"⟩
abbrev cX3_backBehindSeason : ByteArray := prog_5_method_9_code
def yX3_backBehindSeason : MethodName := ⟨RX3, "backBehindSeason", "(I)I"⟩
abbrev cX3_backInTheEnd : ByteArray := prog_5_method_10_code
def yX3_backInTheEnd : MethodName := ⟨RX3, "backInTheEnd", "(I)I"⟩
def RX4 : String := "RutWays$Laws"
def TX4 : u_T := fun k => match k with
  | 0 => ("RutWays$Laws", "steps", "[I", true)
  | 1 => ("RutWays$Laws", "size", "I", false)
  | 2 => ("RutWays$Laws", "from", "[I", true)
  | 3 => ("RutWays$Laws", "to", "[I", true)
  | 4 => ("RutWays$Laws", "seen", "[I", true)
  | 5 => ("RutWays$Laws", "stack", "[I", true)
  | _ => ("RutWays$Laws", "top", "I", false)
def tyX4 : Nat → FieldType := fun k => match k with
  | 0 => .array .int
  | 1 => .int
  | 2 => .array .int
  | 3 => .array .int
  | 4 => .array .int
  | 5 => .array .int
  | _ => .int
abbrev wsX40 : List Cond := u_ws RX4 TX4 7
theorem nmX4 : ∀ a, a < 7 → ∀ b, b < 7 → a ≠ b → (TX4 a).2.1 ≠ (TX4 b).2.1 := by decide +kernel
theorem tyX4_ok : ∀ k, k < 7 → parseFieldDescriptor (TX4 k).2.2.1 = some (tyX4 k) := by decide +kernel
abbrev cX4_init : ByteArray := prog_6_method_1_code
def yX4_init : MethodName := ⟨RX4, "<init>", "()V"⟩
abbrev cX4_makeEmpty : ByteArray := prog_6_method_2_code
def yX4_makeEmpty : MethodName := ⟨RX4, "makeEmpty", "()V"⟩
abbrev cX4_stepsNow : ByteArray := prog_6_method_3_code
def yX4_stepsNow : MethodName := ⟨RX4, "stepsNow", "()I"⟩
abbrev cX4_addStep : ByteArray := prog_6_method_4_code
def yX4_addStep : MethodName := ⟨RX4, "addStep", "(II)V"⟩
abbrev cX4_enact : ByteArray := prog_6_method_5_code
def yX4_enact : MethodName := ⟨RX4, "enact", "(II)V"⟩
abbrev cX4_hasLaw : ByteArray := prog_6_method_6_code
def yX4_hasLaw : MethodName := ⟨RX4, "hasLaw", "(I)Z"⟩
abbrev cX4_look : ByteArray := prog_6_method_7_code
def yX4_look : MethodName := ⟨RX4, "look", "(IIIIII)V"⟩
abbrev cX4_tell : ByteArray := prog_6_method_8_code
def yX4_tell : MethodName := ⟨RX4, "tell", "(I)I"⟩
abbrev cX4_reckon : ByteArray := prog_6_method_9_code
def yX4_reckon : MethodName := ⟨RX4, "reckon", "(III)I"⟩
abbrev cX4_compare : ByteArray := prog_6_method_10_code
def yX4_compare : MethodName := ⟨RX4, "compare", "(III)I"⟩
abbrev cX4_push : ByteArray := prog_6_method_11_code
def yX4_push : MethodName := ⟨RX4, "push", "(I)V"⟩
abbrev cX4_pop : ByteArray := prog_6_method_12_code
def yX4_pop : MethodName := ⟨RX4, "pop", "()I"⟩
def RX5 : String := "RutWays$Odds"
def TX5 : u_T := fun k => match k with
  | 0 => ("RutWays$Odds", "likely", "[I", false)
  | 1 => ("RutWays$Odds", "before", "[I", false)
  | _ => ("RutWays$Odds", "whole", "I", false)
def tyX5 : Nat → FieldType := fun k => match k with
  | 0 => .array .int
  | 1 => .array .int
  | _ => .int
abbrev wsX50 : List Cond := u_ws RX5 TX5 3
theorem nmX5 : ∀ a, a < 3 → ∀ b, b < 3 → a ≠ b → (TX5 a).2.1 ≠ (TX5 b).2.1 := by decide +kernel
theorem tyX5_ok : ∀ k, k < 3 → parseFieldDescriptor (TX5 k).2.2.1 = some (tyX5 k) := by decide +kernel
abbrev cX5_init : ByteArray := prog_7_method_1_code
def yX5_init : MethodName := ⟨RX5, "<init>", "()V"⟩
abbrev cX5_aboveAt : ByteArray := prog_7_method_2_code
def yX5_aboveAt : MethodName := ⟨RX5, "aboveAt", "(I)I"⟩
abbrev cX5_belowAll : ByteArray := prog_7_method_3_code
def yX5_belowAll : MethodName := ⟨RX5, "belowAll", "()I"⟩
abbrev cX5_weigh : ByteArray := prog_7_method_4_code
def yX5_weigh : MethodName := ⟨RX5, "weigh", "(LRutWays$Course;II)V"⟩
abbrev cX5_putWhole : ByteArray := prog_7_method_5_code
def yX5_putWhole : MethodName := ⟨RX5, "putWhole", "(I)V"⟩
abbrev cX5_raise : ByteArray := prog_7_method_6_code
def yX5_raise : MethodName := ⟨RX5, "raise", "(II)V"⟩
abbrev cX5_throughTo : ByteArray := prog_7_method_7_code
def yX5_throughTo : MethodName := ⟨RX5, "throughTo", "(LRutWays$Land;II)I"⟩
abbrev cX5_firstLikeliest : ByteArray := prog_7_method_8_code
def yX5_firstLikeliest : MethodName := ⟨RX5, "firstLikeliest", "(LRutWays$Course;II)I"⟩
abbrev cX5_commonOf : ByteArray := prog_7_method_9_code
def yX5_commonOf : MethodName := ⟨RX5, "commonOf", "(II)I"⟩
def RX6 : String := "RutWays$Paths"
def TX6 : u_T := fun k => match k with
  | 0 => ("RutWays$Paths", "weight", "[I", true)
  | _ => ("RutWays$Paths", "far", "[I", true)
def tyX6 : Nat → FieldType := fun k => match k with
  | 0 => .array .int
  | _ => .array .int
abbrev wsX60 : List Cond := u_ws RX6 TX6 2
theorem nmX6 : ∀ a, a < 2 → ∀ b, b < 2 → a ≠ b → (TX6 a).2.1 ≠ (TX6 b).2.1 := by decide +kernel
theorem tyX6_ok : ∀ k, k < 2 → parseFieldDescriptor (TX6 k).2.2.1 = some (tyX6 k) := by decide +kernel
abbrev cX6_init : ByteArray := prog_8_method_1_code
def yX6_init : MethodName := ⟨RX6, "<init>", "()V"⟩
abbrev cX6_fillingsIn : ByteArray := prog_8_method_2_code
def yX6_fillingsIn : MethodName := ⟨RX6, "fillingsIn", "(I)I"⟩
abbrev cX6_lanesIn : ByteArray := prog_8_method_3_code
def yX6_lanesIn : MethodName := ⟨RX6, "lanesIn", "(I)I"⟩
abbrev cX6_measureOpen : ByteArray := prog_8_method_4_code
def yX6_measureOpen : MethodName := ⟨RX6, "measureOpen", "(LRutWays$Course;I)V"⟩
abbrev cX6_measureFillings : ByteArray := prog_8_method_5_code
def yX6_measureFillings : MethodName := ⟨RX6, "measureFillings", "(LRutWays$Course;I)V"⟩
abbrev cX6_weighFillings : ByteArray := prog_8_method_6_code
def yX6_weighFillings : MethodName := ⟨RX6, "weighFillings", "(LRutWays$Course;)V"⟩
abbrev cX6_measure : ByteArray := prog_8_method_7_code
def yX6_measure : MethodName := ⟨RX6, "measure", "(LRutWays$Land;I)V"⟩
abbrev cX6_relax : ByteArray := prog_8_method_8_code
def yX6_relax : MethodName := ⟨RX6, "relax", "(III)V"⟩
abbrev cX6_weightOf : ByteArray := prog_8_method_9_code
def yX6_weightOf : MethodName := ⟨RX6, "weightOf", "(I)I"⟩
abbrev cX6_farFrom : ByteArray := prog_8_method_10_code
def yX6_farFrom : MethodName := ⟨RX6, "farFrom", "(I)I"⟩
abbrev cX6_laneOnWay : ByteArray := prog_8_method_11_code
def yX6_laneOnWay : MethodName := ⟨RX6, "laneOnWay", "(LRutWays$Land;II)I"⟩
abbrev cX6_firstOnward : ByteArray := prog_8_method_12_code
def yX6_firstOnward : MethodName := ⟨RX6, "firstOnward", "(LRutWays$Land;I)I"⟩
abbrev cX6_weightOfAll : ByteArray := prog_8_method_13_code
def yX6_weightOfAll : MethodName := ⟨RX6, "weightOfAll", "(LRutWays$Land;I)I"⟩
abbrev cX6_leastJoining : ByteArray := prog_8_method_14_code
def yX6_leastJoining : MethodName := ⟨RX6, "leastJoining", "(LRutWays$Land;)I"⟩
def RX7 : String := "RutWays$Reader"
def TX7 : u_T := fun k => match k with
  | 0 => ("RutWays$Reader", "tokens", "LRutWays$Tokens;", true)
  | 1 => ("RutWays$Reader", "land", "LRutWays$Land;", false)
  | 2 => ("RutWays$Reader", "fault", "I", false)
  | 3 => ("RutWays$Reader", "place", "I", false)
  | 4 => ("RutWays$Reader", "last", "I", false)
  | _ => ("RutWays$Reader", "inMay", "Z", false)
def tyX7 : Nat → FieldType := fun k => match k with
  | 0 => .object "RutWays$Tokens"
  | 1 => .object "RutWays$Land"
  | 2 => .int
  | 3 => .int
  | 4 => .int
  | _ => .boolean
abbrev wsX70 : List Cond := u_ws RX7 TX7 6
theorem nmX7 : ∀ a, a < 6 → ∀ b, b < 6 → a ≠ b → (TX7 a).2.1 ≠ (TX7 b).2.1 := by decide +kernel
theorem tyX7_ok : ∀ k, k < 6 → parseFieldDescriptor (TX7 k).2.2.1 = some (tyX7 k) := by decide +kernel
abbrev cX7_init : ByteArray := prog_9_method_1_code
def yX7_init : MethodName := ⟨RX7, "<init>", "()V"⟩
abbrev cX7_readInto : ByteArray := prog_9_method_2_code
def yX7_readInto : MethodName := ⟨RX7, "readInto", "(LRutWays$Land;[BI)I"⟩
abbrev cX7_placeOfFault : ByteArray := prog_9_method_3_code
def yX7_placeOfFault : MethodName := ⟨RX7, "placeOfFault", "()I"⟩
abbrev cX7_refuse : ByteArray := prog_9_method_4_code
def yX7_refuse : MethodName := ⟨RX7, "refuse", "(I)Z"⟩
abbrev cX7_take : ByteArray := prog_9_method_5_code
def yX7_take : MethodName := ⟨RX7, "take", "(I)Z"⟩
abbrev cX7_takeNumber : ByteArray := prog_9_method_6_code
def yX7_takeNumber : MethodName := ⟨RX7, "takeNumber", "(III)Z"⟩
abbrev cX7_takeLineEnd : ByteArray := prog_9_method_7_code
def yX7_takeLineEnd : MethodName := ⟨RX7, "takeLineEnd", "()Z"⟩
abbrev cX7_readLandLine : ByteArray := prog_9_method_8_code
def yX7_readLandLine : MethodName := ⟨RX7, "readLandLine", "()Z"⟩
abbrev cX7_readLine : ByteArray := prog_9_method_9_code
def yX7_readLine : MethodName := ⟨RX7, "readLine", "()Z"⟩
abbrev cX7_readLane : ByteArray := prog_9_method_10_code
def yX7_readLane : MethodName := ⟨RX7, "readLane", "()Z"⟩
abbrev cX7_readFlag : ByteArray := prog_9_method_11_code
def yX7_readFlag : MethodName := ⟨RX7, "readFlag", "(I)Z"⟩
abbrev cX7_readCart : ByteArray := prog_9_method_12_code
def yX7_readCart : MethodName := ⟨RX7, "readCart", "()Z"⟩
abbrev cX7_readPerson : ByteArray := prog_9_method_13_code
def yX7_readPerson : MethodName := ⟨RX7, "readPerson", "()Z"⟩
abbrev cX7_readRain : ByteArray := prog_9_method_14_code
def yX7_readRain : MethodName := ⟨RX7, "readRain", "()Z"⟩
abbrev cX7_readWears : ByteArray := prog_9_method_15_code
def yX7_readWears : MethodName := ⟨RX7, "readWears", "()Z"⟩
abbrev cX7_readMay : ByteArray := prog_9_method_16_code
def yX7_readMay : MethodName := ⟨RX7, "readMay", "()Z"⟩
abbrev cX7_takeOpening : ByteArray := prog_9_method_17_code
def yX7_takeOpening : MethodName := ⟨RX7, "takeOpening", "(I)Z"⟩
abbrev cX7_readTruth : ByteArray := prog_9_method_18_code
def yX7_readTruth : MethodName := ⟨RX7, "readTruth", "(I)Z"⟩
abbrev cX7_readBoth : ByteArray := prog_9_method_19_code
def yX7_readBoth : MethodName := ⟨RX7, "readBoth", "(I)Z"⟩
abbrev cX7_readUnit : ByteArray := prog_9_method_20_code
def yX7_readUnit : MethodName := ⟨RX7, "readUnit", "(I)Z"⟩
abbrev cX7_readSum : ByteArray := prog_9_method_21_code
def yX7_readSum : MethodName := ⟨RX7, "readSum", "(I)Z"⟩
abbrev cX7_readTerm : ByteArray := prog_9_method_22_code
def yX7_readTerm : MethodName := ⟨RX7, "readTerm", "(I)Z"⟩
abbrev cX7_readAtom : ByteArray := prog_9_method_23_code
def yX7_readAtom : MethodName := ⟨RX7, "readAtom", "(I)Z"⟩
abbrev cX7_addAtom : ByteArray := prog_9_method_24_code
def yX7_addAtom : MethodName := ⟨RX7, "addAtom", "(II)Z"⟩
abbrev cX7_readIf : ByteArray := prog_9_method_25_code
def yX7_readIf : MethodName := ⟨RX7, "readIf", "(I)Z"⟩
def RX8 : String := "RutWays$RowCount"
def TX8 : u_T := fun k => match k with
  | 0 => ("RutWays$RowCount", "open", "[Z", true)
  | 1 => ("RutWays$RowCount", "then", "[I", true)
  | 2 => ("RutWays$RowCount", "deep", "[I", true)
  | 3 => ("RutWays$RowCount", "into", "[I", true)
  | 4 => ("RutWays$RowCount", "land", "LRutWays$Land;", false)
  | 5 => ("RutWays$RowCount", "paths", "LRutWays$Paths;", false)
  | _ => ("RutWays$RowCount", "goal", "I", false)
def tyX8 : Nat → FieldType := fun k => match k with
  | 0 => .array .boolean
  | 1 => .array .int
  | 2 => .array .int
  | 3 => .array .int
  | 4 => .object "RutWays$Land"
  | 5 => .object "RutWays$Paths"
  | _ => .int
abbrev wsX80 : List Cond := u_ws RX8 TX8 7
theorem nmX8 : ∀ a, a < 7 → ∀ b, b < 7 → a ≠ b → (TX8 a).2.1 ≠ (TX8 b).2.1 := by decide +kernel
theorem tyX8_ok : ∀ k, k < 7 → parseFieldDescriptor (TX8 k).2.2.1 = some (tyX8 k) := by decide +kernel
abbrev cX8_init : ByteArray := prog_10_method_1_code
def yX8_init : MethodName := ⟨RX8, "<init>", "()V"⟩
abbrev cX8_countRows : ByteArray := prog_10_method_2_code
def yX8_countRows : MethodName := ⟨RX8, "countRows", "(LRutWays$Course;LRutWays$Paths;II)I"⟩
abbrev cX8_rowsFrom : ByteArray := prog_10_method_3_code
def yX8_rowsFrom : MethodName := ⟨RX8, "rowsFrom", "(II)I"⟩
abbrev cX8_pairsFrom : ByteArray := prog_10_method_4_code
def yX8_pairsFrom : MethodName := ⟨RX8, "pairsFrom", "(I)I"⟩
abbrev cX8_isOpenAt : ByteArray := prog_10_method_5_code
def yX8_isOpenAt : MethodName := ⟨RX8, "isOpenAt", "(II)Z"⟩
abbrev cX8_depthBehind : ByteArray := prog_10_method_6_code
def yX8_depthBehind : MethodName := ⟨RX8, "depthBehind", "(II)I"⟩
def RX9 : String := "RutWays$Tokens"
def TX9 : u_T := fun k => match k with
  | 0 => ("RutWays$Tokens", "kind", "I", false)
  | 1 => ("RutWays$Tokens", "start", "I", false)
  | 2 => ("RutWays$Tokens", "value", "I", false)
  | 3 => ("RutWays$Tokens", "text", "[B", false)
  | 4 => ("RutWays$Tokens", "length", "I", false)
  | 5 => ("RutWays$Tokens", "all", "[I", true)
  | 6 => ("RutWays$Tokens", "size", "I", false)
  | _ => ("RutWays$Tokens", "next", "I", false)
def tyX9 : Nat → FieldType := fun k => match k with
  | 0 => .int
  | 1 => .int
  | 2 => .int
  | 3 => .array .byte
  | 4 => .int
  | 5 => .array .int
  | 6 => .int
  | _ => .int
abbrev wsX90 : List Cond := u_ws RX9 TX9 8
theorem nmX9 : ∀ a, a < 8 → ∀ b, b < 8 → a ≠ b → (TX9 a).2.1 ≠ (TX9 b).2.1 := by decide +kernel
theorem tyX9_ok : ∀ k, k < 8 → parseFieldDescriptor (TX9 k).2.2.1 = some (tyX9 k) := by decide +kernel
abbrev cX9_init : ByteArray := prog_11_method_1_code
def yX9_init : MethodName := ⟨RX9, "<init>", "()V"⟩
abbrev cX9_begin : ByteArray := prog_11_method_2_code
def yX9_begin : MethodName := ⟨RX9, "begin", "([BI)V"⟩
abbrev cX9_advance : ByteArray := prog_11_method_3_code
def yX9_advance : MethodName := ⟨RX9, "advance", "()V"⟩
abbrev cX9_keep : ByteArray := prog_11_method_4_code
def yX9_keep : MethodName := ⟨RX9, "keep", "(III)V"⟩
abbrev cX9_takeWord : ByteArray := prog_11_method_5_code
def yX9_takeWord : MethodName := ⟨RX9, "takeWord", "(I)I"⟩
abbrev cX9_isSame : ByteArray := prog_11_method_6_code
def yX9_isSame : MethodName := ⟨RX9, "isSame", "(III)Z"⟩
abbrev cX9_takeDigits : ByteArray := prog_11_method_7_code
def yX9_takeDigits : MethodName := ⟨RX9, "takeDigits", "(I)I"⟩
abbrev cX9_byteAt : ByteArray := prog_11_method_8_code
def yX9_byteAt : MethodName := ⟨RX9, "byteAt", "(I)I"⟩
abbrev cX9_isLetter : ByteArray := prog_11_method_9_code
def yX9_isLetter : MethodName := ⟨RX9, "isLetter", "(I)Z"⟩
abbrev cX9_isDigit : ByteArray := prog_11_method_10_code
def yX9_isDigit : MethodName := ⟨RX9, "isDigit", "(I)Z"⟩
def RX10 : String := "RutWays$Tray"
def TX10 : u_T := fun k => match k with
  | 0 => ("RutWays$Tray", "missing", "Z", false)
  | 1 => ("RutWays$Tray", "size", "I", false)
  | 2 => ("RutWays$Tray", "sort", "I", false)
  | _ => ("RutWays$Tray", "cells", "[J", true)
def tyX10 : Nat → FieldType := fun k => match k with
  | 0 => .boolean
  | 1 => .int
  | 2 => .int
  | _ => .array .long
abbrev wsX100 : List Cond := u_ws RX10 TX10 4
theorem nmX10 : ∀ a, a < 4 → ∀ b, b < 4 → a ≠ b → (TX10 a).2.1 ≠ (TX10 b).2.1 := by decide +kernel
theorem tyX10_ok : ∀ k, k < 4 → parseFieldDescriptor (TX10 k).2.2.1 = some (tyX10 k) := by decide +kernel
abbrev cX10_init : ByteArray := prog_12_method_1_code
def yX10_init : MethodName := ⟨RX10, "<init>", "()V"⟩
abbrev cX10_makeNew : ByteArray := prog_12_method_2_code
def yX10_makeNew : MethodName := ⟨RX10, "makeNew", "(II)V"⟩
abbrev cX10_numberAt : ByteArray := prog_12_method_3_code
def yX10_numberAt : MethodName := ⟨RX10, "numberAt", "(I)J"⟩
abbrev cX10_put : ByteArray := prog_12_method_4_code
def yX10_put : MethodName := ⟨RX10, "put", "(IJ)V"⟩
abbrev cX10_cutToSort : ByteArray := prog_12_method_5_code
def yX10_cutToSort : MethodName := ⟨RX10, "cutToSort", "(J)J"⟩
def RX11 : String := "RutWays"
def TX11 : u_T := fun k => match k with
  | 0 => ("RutWays", "tape", "[B", true)
  | 1 => ("RutWays", "fed", "I", false)
  | 2 => ("RutWays", "reader", "LRutWays$Reader;", true)
  | 3 => ("RutWays", "faultKind", "I", false)
  | 4 => ("RutWays", "faultPlace", "I", false)
  | 5 => ("RutWays", "lands", "[LRutWays$Land;", true)
  | 6 => ("RutWays", "now", "LRutWays$Course;", true)
  | 7 => ("RutWays", "other", "LRutWays$Course;", true)
  | 8 => ("RutWays", "history", "LRutWays$History;", true)
  | 9 => ("RutWays", "pictures", "[LRutWays$Course;", true)
  | 10 => ("RutWays", "picturesMade", "I", false)
  | 11 => ("RutWays", "trays", "[LRutWays$Tray;", true)
  | 12 => ("RutWays", "paths", "LRutWays$Paths;", true)
  | 13 => ("RutWays", "rowCount", "LRutWays$RowCount;", true)
  | 14 => ("RutWays", "duel", "LRutWays$Duel;", true)
  | _ => ("RutWays", "odds", "LRutWays$Odds;", true)
def tyX11 : Nat → FieldType := fun k => match k with
  | 0 => .array .byte
  | 1 => .int
  | 2 => .object "RutWays$Reader"
  | 3 => .int
  | 4 => .int
  | 5 => .array (.object "RutWays$Land")
  | 6 => .object "RutWays$Course"
  | 7 => .object "RutWays$Course"
  | 8 => .object "RutWays$History"
  | 9 => .array (.object "RutWays$Course")
  | 10 => .int
  | 11 => .array (.object "RutWays$Tray")
  | 12 => .object "RutWays$Paths"
  | 13 => .object "RutWays$RowCount"
  | 14 => .object "RutWays$Duel"
  | _ => .object "RutWays$Odds"
abbrev wsX110 : List Cond := u_ws RX11 TX11 16
theorem nmX11 : ∀ a, a < 16 → ∀ b, b < 16 → a ≠ b → (TX11 a).2.1 ≠ (TX11 b).2.1 := by decide +kernel
theorem tyX11_ok : ∀ k, k < 16 → parseFieldDescriptor (TX11 k).2.2.1 = some (tyX11 k) := by decide +kernel
abbrev cX11_init : ByteArray := prog_1_method_1_code
def yX11_init : MethodName := ⟨RX11, "<init>", "()V"⟩
abbrev cX11_feed : ByteArray := prog_1_method_2_code
def yX11_feed : MethodName := ⟨RX11, "feed", "(IIIII)I"⟩
abbrev cX11_putOnTape : ByteArray := prog_1_method_3_code
def yX11_putOnTape : MethodName := ⟨RX11, "putOnTape", "(I)V"⟩
abbrev cX11_land : ByteArray := prog_1_method_4_code
def yX11_land : MethodName := ⟨RX11, "land", "(I)I"⟩
abbrev cX11_spareLand : ByteArray := prog_1_method_5_code
def yX11_spareLand : MethodName := ⟨RX11, "spareLand", "()LRutWays$Land;"⟩
abbrev cX11_fault : ByteArray := prog_1_method_6_code
def yX11_fault : MethodName := ⟨RX11, "fault", "(I)I"⟩
abbrev cX11_lane : ByteArray := prog_1_method_7_code
def yX11_lane : MethodName := ⟨RX11, "lane", "(II)I"⟩
abbrev cX11_why : ByteArray := prog_1_method_8_code
def yX11_why : MethodName := ⟨RX11, "why", "(I)I"⟩
abbrev cX11_worn : ByteArray := prog_1_method_9_code
def yX11_worn : MethodName := ⟨RX11, "worn", "(I)I"⟩
abbrev cX11_fillings : ByteArray := prog_1_method_10_code
def yX11_fillings : MethodName := ⟨RX11, "fillings", "(I)I"⟩
abbrev cX11_go : ByteArray := prog_1_method_11_code
def yX11_go : MethodName := ⟨RX11, "go", "(I)I"⟩
abbrev cX11_fill : ByteArray := prog_1_method_12_code
def yX11_fill : MethodName := ⟨RX11, "fill", "(I)I"⟩
abbrev cX11_dig : ByteArray := prog_1_method_13_code
def yX11_dig : MethodName := ⟨RX11, "dig", "(I)I"⟩
abbrev cX11_turn : ByteArray := prog_1_method_14_code
def yX11_turn : MethodName := ⟨RX11, "turn", "(I)I"⟩
abbrev cX11_seasons : ByteArray := prog_1_method_15_code
def yX11_seasons : MethodName := ⟨RX11, "seasons", "(I)I"⟩
abbrev cX11_rain : ByteArray := prog_1_method_16_code
def yX11_rain : MethodName := ⟨RX11, "rain", "(I)I"⟩
abbrev cX11_doOne : ByteArray := prog_1_method_17_code
def yX11_doOne : MethodName := ⟨RX11, "doOne", "(II)I"⟩
abbrev cX11_undo : ByteArray := prog_1_method_18_code
def yX11_undo : MethodName := ⟨RX11, "undo", "(I)I"⟩
abbrev cX11_judge : ByteArray := prog_1_method_19_code
def yX11_judge : MethodName := ⟨RX11, "judge", "(II)I"⟩
abbrev cX11_perform : ByteArray := prog_1_method_20_code
def yX11_perform : MethodName := ⟨RX11, "perform", "(I)I"⟩
abbrev cX11_year : ByteArray := prog_1_method_21_code
def yX11_year : MethodName := ⟨RX11, "year", "(II)I"⟩
abbrev cX11_drawBehind : ByteArray := prog_1_method_22_code
def yX11_drawBehind : MethodName := ⟨RX11, "drawBehind", "(I)I"⟩
abbrev cX11_drawnDeed : ByteArray := prog_1_method_23_code
def yX11_drawnDeed : MethodName := ⟨RX11, "drawnDeed", "(II)I"⟩
abbrev cX11_reach : ByteArray := prog_1_method_24_code
def yX11_reach : MethodName := ⟨RX11, "reach", "()I"⟩
abbrev cX11_soonest : ByteArray := prog_1_method_25_code
def yX11_soonest : MethodName := ⟨RX11, "soonest", "(I)I"⟩
abbrev cX11_rows : ByteArray := prog_1_method_26_code
def yX11_rows : MethodName := ⟨RX11, "rows", "(II)I"⟩
abbrev cX11_way : ByteArray := prog_1_method_27_code
def yX11_way : MethodName := ⟨RX11, "way", "(II)I"⟩
abbrev cX11_toAndFro : ByteArray := prog_1_method_28_code
def yX11_toAndFro : MethodName := ⟨RX11, "toAndFro", "(I)I"⟩
abbrev cX11_cheapest : ByteArray := prog_1_method_29_code
def yX11_cheapest : MethodName := ⟨RX11, "cheapest", "(II)I"⟩
abbrev cX11_cheapBy : ByteArray := prog_1_method_30_code
def yX11_cheapBy : MethodName := ⟨RX11, "cheapBy", "(II)I"⟩
abbrev cX11_joins : ByteArray := prog_1_method_31_code
def yX11_joins : MethodName := ⟨RX11, "joins", "(I)I"⟩
abbrev cX11_shuts : ByteArray := prog_1_method_32_code
def yX11_shuts : MethodName := ⟨RX11, "shuts", "(II)I"⟩
abbrev cX11_leastShutting : ByteArray := prog_1_method_33_code
def yX11_leastShutting : MethodName := ⟨RX11, "leastShutting", "(I)I"⟩
abbrev cX11_turning : ByteArray := prog_1_method_34_code
def yX11_turning : MethodName := ⟨RX11, "turning", "(I)I"⟩
abbrev cX11_seasonsOfTurning : ByteArray := prog_1_method_35_code
def yX11_seasonsOfTurning : MethodName := ⟨RX11, "seasonsOfTurning", "()I"⟩
abbrev cX11_when : ByteArray := prog_1_method_36_code
def yX11_when : MethodName := ⟨RX11, "when", "(I)I"⟩
abbrev cX11_starts : ByteArray := prog_1_method_37_code
def yX11_starts : MethodName := ⟨RX11, "starts", "(I)I"⟩
abbrev cX11_leastStarting : ByteArray := prog_1_method_38_code
def yX11_leastStarting : MethodName := ⟨RX11, "leastStarting", "()I"⟩
abbrev cX11_rains : ByteArray := prog_1_method_39_code
def yX11_rains : MethodName := ⟨RX11, "rains", "(I)I"⟩
abbrev cX11_attempt : ByteArray := prog_1_method_40_code
def yX11_attempt : MethodName := ⟨RX11, "attempt", "(I)I"⟩
abbrev cX11_whyNotWorn : ByteArray := prog_1_method_41_code
def yX11_whyNotWorn : MethodName := ⟨RX11, "whyNotWorn", "(LRutWays$Tray;)I"⟩
abbrev cX11_rainsBy : ByteArray := prog_1_method_42_code
def yX11_rainsBy : MethodName := ⟨RX11, "rainsBy", "(LRutWays$Tray;)I"⟩
abbrev cX11_mostAlike : ByteArray := prog_1_method_43_code
def yX11_mostAlike : MethodName := ⟨RX11, "mostAlike", "(II)I"⟩
abbrev cX11_wornByRain : ByteArray := prog_1_method_44_code
def yX11_wornByRain : MethodName := ⟨RX11, "wornByRain", "(II)I"⟩
abbrev cX11_wins : ByteArray := prog_1_method_45_code
def yX11_wins : MethodName := ⟨RX11, "wins", "()I"⟩
abbrev cX11_best : ByteArray := prog_1_method_46_code
def yX11_best : MethodName := ⟨RX11, "best", "()I"⟩
abbrev cX11_chance : ByteArray := prog_1_method_47_code
def yX11_chance : MethodName := ⟨RX11, "chance", "(III)I"⟩
abbrev cX11_bestBy : ByteArray := prog_1_method_48_code
def yX11_bestBy : MethodName := ⟨RX11, "bestBy", "(II)I"⟩
abbrev cX11_trayOf : ByteArray := prog_1_method_49_code
def yX11_trayOf : MethodName := ⟨RX11, "trayOf", "(I)LRutWays$Tray;"⟩
abbrev cX11_numbers : ByteArray := prog_1_method_50_code
def yX11_numbers : MethodName := ⟨RX11, "numbers", "(III)I"⟩
abbrev cX11_write : ByteArray := prog_1_method_51_code
def yX11_write : MethodName := ⟨RX11, "write", "(IIJ)J"⟩
abbrev cX11_lists : ByteArray := prog_1_method_52_code
def yX11_lists : MethodName := ⟨RX11, "lists", "(II)I"⟩
abbrev cX11_pictureOf : ByteArray := prog_1_method_53_code
def yX11_pictureOf : MethodName := ⟨RX11, "pictureOf", "(I)LRutWays$Course;"⟩
abbrev cX11_image : ByteArray := prog_1_method_54_code
def yX11_image : MethodName := ⟨RX11, "image", "(I)I"⟩
abbrev cX11_restore : ByteArray := prog_1_method_55_code
def yX11_restore : MethodName := ⟨RX11, "restore", "(I)I"⟩
abbrev cX11_count : ByteArray := prog_1_method_56_code
def yX11_count : MethodName := ⟨RX11, "count", "(I)I"⟩
def RX12 : String := "RutWaysModel"
def TX12 : u_T := fun k => match k with
  | 0 => ("RutWaysModel", "thrown", "I", false)
  | 1 => ("RutWaysModel", "all", "[I", true)
  | 2 => ("RutWaysModel", "hasImage", "[Z", true)
  | 3 => ("RutWaysModel", "tape", "[I", true)
  | 4 => ("RutWaysModel", "fresh", "[I", true)
  | 5 => ("RutWaysModel", "taped", "I", false)
  | 6 => ("RutWaysModel", "at", "I", false)
  | 7 => ("RutWaysModel", "behind", "I", false)
  | 8 => ("RutWaysModel", "size", "I", false)
  | 9 => ("RutWaysModel", "kind", "I", false)
  | 10 => ("RutWaysModel", "number", "I", false)
  | 11 => ("RutWaysModel", "wrong", "I", false)
  | 12 => ("RutWaysModel", "wrongAt", "I", false)
  | 13 => ("RutWaysModel", "faultKind", "I", false)
  | 14 => ("RutWaysModel", "faultPlace", "I", false)
  | 15 => ("RutWaysModel", "reading", "I", false)
  | 16 => ("RutWaysModel", "reckoned", "[I", true)
  | 17 => ("RutWaysModel", "words", "[I", true)
  | 18 => ("RutWaysModel", "was", "[I", true)
  | 19 => ("RutWaysModel", "toldWhy", "I", false)
  | 20 => ("RutWaysModel", "x", "I", false)
  | 21 => ("RutWaysModel", "far", "[I", true)
  | 22 => ("RutWaysModel", "found", "[I", true)
  | 23 => ("RutWaysModel", "cost", "[I", true)
  | 24 => ("RutWaysModel", "turningSeasons", "I", false)
  | 25 => ("RutWaysModel", "often", "[I", true)
  | 26 => ("RutWaysModel", "hasWon", "[Z", true)
  | 27 => ("RutWaysModel", "isKnown", "[Z", true)
  | 28 => ("RutWaysModel", "likely", "[I", true)
  | 29 => ("RutWaysModel", "rowSort", "[I", true)
  | 30 => ("RutWaysModel", "rowMany", "[I", true)
  | _ => ("RutWaysModel", "numbers", "[J", true)
def tyX12 : Nat → FieldType := fun k => match k with
  | 0 => .int
  | 1 => .array .int
  | 2 => .array .boolean
  | 3 => .array .int
  | 4 => .array .int
  | 5 => .int
  | 6 => .int
  | 7 => .int
  | 8 => .int
  | 9 => .int
  | 10 => .int
  | 11 => .int
  | 12 => .int
  | 13 => .int
  | 14 => .int
  | 15 => .int
  | 16 => .array .int
  | 17 => .array .int
  | 18 => .array .int
  | 19 => .int
  | 20 => .int
  | 21 => .array .int
  | 22 => .array .int
  | 23 => .array .int
  | 24 => .int
  | 25 => .array .int
  | 26 => .array .boolean
  | 27 => .array .boolean
  | 28 => .array .int
  | 29 => .array .int
  | 30 => .array .int
  | _ => .array .long
abbrev wsX120 : List Cond := u_ws RX12 TX12 32
theorem nmX12 : ∀ a, a < 32 → ∀ b, b < 32 → a ≠ b → (TX12 a).2.1 ≠ (TX12 b).2.1 := by decide +kernel
theorem tyX12_ok : ∀ k, k < 32 → parseFieldDescriptor (TX12 k).2.2.1 = some (tyX12 k) := by decide +kernel
abbrev cX12_within : ByteArray := prog_14_method_2_code
def yX12_within : MethodName := ⟨RX12, "within", "(JJJ)Z"⟩
abbrev cX12_init : ByteArray := prog_14_method_3_code
def yX12_init : MethodName := ⟨RX12, "<init>", "()V"⟩
abbrev cX12_plain : ByteArray := prog_14_method_4_code
def yX12_plain : MethodName := ⟨RX12, "plain", "([I)V"⟩
abbrev cX12_feed : ByteArray := prog_14_method_5_code
def yX12_feed : MethodName := ⟨RX12, "feed", "(IIIII)I"⟩
abbrev cX12_see : ByteArray := prog_14_method_6_code
def yX12_see : MethodName := ⟨RX12, "see", "(I)I"⟩
abbrev cX12_isSmall : ByteArray := prog_14_method_7_code
def yX12_isSmall : MethodName := ⟨RX12, "isSmall", "(I)Z"⟩
abbrev cX12_isDigit : ByteArray := prog_14_method_8_code
def yX12_isDigit : MethodName := ⟨RX12, "isDigit", "(I)Z"⟩
abbrev cX12_keyAt : ByteArray := prog_14_method_9_code
def yX12_keyAt : MethodName := ⟨RX12, "keyAt", "()I"⟩
abbrev cX12_next : ByteArray := prog_14_method_10_code
def yX12_next : MethodName := ⟨RX12, "next", "()V"⟩
abbrev cX12_fails : ByteArray := prog_14_method_11_code
def yX12_fails : MethodName := ⟨RX12, "fails", "(I)V"⟩
abbrev cX12_is : ByteArray := prog_14_method_12_code
def yX12_is : MethodName := ⟨RX12, "is", "(I)Z"⟩
abbrev cX12_eats : ByteArray := prog_14_method_13_code
def yX12_eats : MethodName := ⟨RX12, "eats", "(I)Z"⟩
abbrev cX12_takes : ByteArray := prog_14_method_14_code
def yX12_takes : MethodName := ⟨RX12, "takes", "(II)I"⟩
abbrev cX12_isIn : ByteArray := prog_14_method_15_code
def yX12_isIn : MethodName := ⟨RX12, "isIn", "(JI)Z"⟩
abbrev cX12_wordOf : ByteArray := prog_14_method_16_code
def yX12_wordOf : MethodName := ⟨RX12, "wordOf", "(I)I"⟩
abbrev cX12_codes : ByteArray := prog_14_method_17_code
def yX12_codes : MethodName := ⟨RX12, "codes", "(I)V"⟩
abbrev cX12_goesIn : ByteArray := prog_14_method_18_code
def yX12_goesIn : MethodName := ⟨RX12, "goesIn", "(I)Z"⟩
abbrev cX12_readAtom : ByteArray := prog_14_method_19_code
def yX12_readAtom : MethodName := ⟨RX12, "readAtom", "(I)V"⟩
abbrev cX12_readIf : ByteArray := prog_14_method_20_code
def yX12_readIf : MethodName := ⟨RX12, "readIf", "(I)V"⟩
abbrev cX12_readTerm : ByteArray := prog_14_method_21_code
def yX12_readTerm : MethodName := ⟨RX12, "readTerm", "(I)V"⟩
abbrev cX12_readSum : ByteArray := prog_14_method_22_code
def yX12_readSum : MethodName := ⟨RX12, "readSum", "(I)V"⟩
abbrev cX12_readUnit : ByteArray := prog_14_method_23_code
def yX12_readUnit : MethodName := ⟨RX12, "readUnit", "(I)V"⟩
abbrev cX12_readBoth : ByteArray := prog_14_method_24_code
def yX12_readBoth : MethodName := ⟨RX12, "readBoth", "(I)V"⟩
abbrev cX12_readTruth : ByteArray := prog_14_method_25_code
def yX12_readTruth : MethodName := ⟨RX12, "readTruth", "(I)V"⟩
abbrev cX12_readFlag : ByteArray := prog_14_method_26_code
def yX12_readFlag : MethodName := ⟨RX12, "readFlag", "(I)Z"⟩
abbrev cX12_readLane : ByteArray := prog_14_method_27_code
def yX12_readLane : MethodName := ⟨RX12, "readLane", "()V"⟩
abbrev cX12_named : ByteArray := prog_14_method_28_code
def yX12_named : MethodName := ⟨RX12, "named", "(III)I"⟩
abbrev cX12_readCart : ByteArray := prog_14_method_29_code
def yX12_readCart : MethodName := ⟨RX12, "readCart", "()V"⟩
abbrev cX12_readPerson : ByteArray := prog_14_method_30_code
def yX12_readPerson : MethodName := ⟨RX12, "readPerson", "()V"⟩
abbrev cX12_readLaw : ByteArray := prog_14_method_31_code
def yX12_readLaw : MethodName := ⟨RX12, "readLaw", "(I)V"⟩
abbrev cX12_readLine : ByteArray := prog_14_method_32_code
def yX12_readLine : MethodName := ⟨RX12, "readLine", "()V"⟩
abbrev cX12_closes : ByteArray := prog_14_method_33_code
def yX12_closes : MethodName := ⟨RX12, "closes", "()V"⟩
abbrev cX12_land : ByteArray := prog_14_method_34_code
def yX12_land : MethodName := ⟨RX12, "land", "(I)I"⟩
abbrev cX12_fault : ByteArray := prog_14_method_35_code
def yX12_fault : MethodName := ⟨RX12, "fault", "(I)I"⟩
abbrev cX12_isPlace : ByteArray := prog_14_method_36_code
def yX12_isPlace : MethodName := ⟨RX12, "isPlace", "(I)Z"⟩
abbrev cX12_isLane : ByteArray := prog_14_method_37_code
def yX12_isLane : MethodName := ⟨RX12, "isLane", "(J)Z"⟩
abbrev cX12_isPerson : ByteArray := prog_14_method_38_code
def yX12_isPerson : MethodName := ⟨RX12, "isPerson", "(J)Z"⟩
abbrev cX12_bitsOf : ByteArray := prog_14_method_39_code
def yX12_bitsOf : MethodName := ⟨RX12, "bitsOf", "(I)I"⟩
abbrev cX12_otherEnd : ByteArray := prog_14_method_40_code
def yX12_otherEnd : MethodName := ⟨RX12, "otherEnd", "(II)I"⟩
abbrev cX12_between : ByteArray := prog_14_method_41_code
def yX12_between : MethodName := ⟨RX12, "between", "(III)I"⟩
abbrev cX12_reckons : ByteArray := prog_14_method_42_code
def yX12_reckons : MethodName := ⟨RX12, "reckons", "(IIII)I"⟩
abbrev cX12_mayGo : ByteArray := prog_14_method_43_code
def yX12_mayGo : MethodName := ⟨RX12, "mayGo", "(II)Z"⟩
abbrev cX12_isOpen : ByteArray := prog_14_method_44_code
def yX12_isOpen : MethodName := ⟨RX12, "isOpen", "(I)Z"⟩
abbrev cX12_wornTo : ByteArray := prog_14_method_45_code
def yX12_wornTo : MethodName := ⟨RX12, "wornTo", "(III)I"⟩
abbrev cX12_fillingsOf : ByteArray := prog_14_method_46_code
def yX12_fillingsOf : MethodName := ⟨RX12, "fillingsOf", "(I)I"⟩
abbrev cX12_whyGo : ByteArray := prog_14_method_47_code
def yX12_whyGo : MethodName := ⟨RX12, "whyGo", "(J)I"⟩
abbrev cX12_lane : ByteArray := prog_14_method_48_code
def yX12_lane : MethodName := ⟨RX12, "lane", "(II)I"⟩
abbrev cX12_why : ByteArray := prog_14_method_49_code
def yX12_why : MethodName := ⟨RX12, "why", "(I)I"⟩
abbrev cX12_worn : ByteArray := prog_14_method_50_code
def yX12_worn : MethodName := ⟨RX12, "worn", "(I)I"⟩
abbrev cX12_fillings : ByteArray := prog_14_method_51_code
def yX12_fillings : MethodName := ⟨RX12, "fillings", "(I)I"⟩
abbrev cX12_stores : ByteArray := prog_14_method_52_code
def yX12_stores : MethodName := ⟨RX12, "stores", "()V"⟩
abbrev cX12_isAgain : ByteArray := prog_14_method_53_code
def yX12_isAgain : MethodName := ⟨RX12, "isAgain", "()V"⟩
abbrev cX12_notes : ByteArray := prog_14_method_54_code
def yX12_notes : MethodName := ⟨RX12, "notes", "()V"⟩
abbrev cX12_goes : ByteArray := prog_14_method_55_code
def yX12_goes : MethodName := ⟨RX12, "goes", "(I)V"⟩
abbrev cX12_go : ByteArray := prog_14_method_56_code
def yX12_go : MethodName := ⟨RX12, "go", "(I)I"⟩
abbrev cX12_whyRut : ByteArray := prog_14_method_57_code
def yX12_whyRut : MethodName := ⟨RX12, "whyRut", "(JI)I"⟩
abbrev cX12_shovels : ByteArray := prog_14_method_58_code
def yX12_shovels : MethodName := ⟨RX12, "shovels", "(II)I"⟩
abbrev cX12_fill : ByteArray := prog_14_method_59_code
def yX12_fill : MethodName := ⟨RX12, "fill", "(I)I"⟩
abbrev cX12_dig : ByteArray := prog_14_method_60_code
def yX12_dig : MethodName := ⟨RX12, "dig", "(I)I"⟩
abbrev cX12_turn : ByteArray := prog_14_method_61_code
def yX12_turn : MethodName := ⟨RX12, "turn", "(I)I"⟩
abbrev cX12_seasonTo : ByteArray := prog_14_method_62_code
def yX12_seasonTo : MethodName := ⟨RX12, "seasonTo", "(I)I"⟩
abbrev cX12_seasons : ByteArray := prog_14_method_63_code
def yX12_seasons : MethodName := ⟨RX12, "seasons", "(I)I"⟩
abbrev cX12_rain : ByteArray := prog_14_method_64_code
def yX12_rain : MethodName := ⟨RX12, "rain", "(I)I"⟩
abbrev cX12_undo : ByteArray := prog_14_method_65_code
def yX12_undo : MethodName := ⟨RX12, "undo", "(I)I"⟩
abbrev cX12_whyNot : ByteArray := prog_14_method_66_code
def yX12_whyNot : MethodName := ⟨RX12, "whyNot", "(J)I"⟩
abbrev cX12_does : ByteArray := prog_14_method_67_code
def yX12_does : MethodName := ⟨RX12, "does", "(I)V"⟩
abbrev cX12_tells : ByteArray := prog_14_method_68_code
def yX12_tells : MethodName := ⟨RX12, "tells", "(I)I"⟩
abbrev cX12_noTray : ByteArray := prog_14_method_69_code
def yX12_noTray : MethodName := ⟨RX12, "noTray", "(I)I"⟩
abbrev cX12_depthSum : ByteArray := prog_14_method_70_code
def yX12_depthSum : MethodName := ⟨RX12, "depthSum", "()I"⟩
abbrev cX12_judge : ByteArray := prog_14_method_71_code
def yX12_judge : MethodName := ⟨RX12, "judge", "(II)I"⟩
abbrev cX12_perform : ByteArray := prog_14_method_72_code
def yX12_perform : MethodName := ⟨RX12, "perform", "(I)I"⟩
abbrev cX12_draw : ByteArray := prog_14_method_73_code
def yX12_draw : MethodName := ⟨RX12, "draw", "(I)I"⟩
abbrev cX12_drawn : ByteArray := prog_14_method_74_code
def yX12_drawn : MethodName := ⟨RX12, "drawn", "()I"⟩
abbrev cX12_year : ByteArray := prog_14_method_75_code
def yX12_year : MethodName := ⟨RX12, "year", "(II)I"⟩
abbrev cX12_laysFar : ByteArray := prog_14_method_76_code
def yX12_laysFar : MethodName := ⟨RX12, "laysFar", "(I)V"⟩
abbrev cX12_nearer : ByteArray := prog_14_method_77_code
def yX12_nearer : MethodName := ⟨RX12, "nearer", "(II)Z"⟩
abbrev cX12_everyLane : ByteArray := prog_14_method_78_code
def yX12_everyLane : MethodName := ⟨RX12, "everyLane", "()I"⟩
abbrev cX12_reach : ByteArray := prog_14_method_79_code
def yX12_reach : MethodName := ⟨RX12, "reach", "()I"⟩
abbrev cX12_toldFar : ByteArray := prog_14_method_80_code
def yX12_toldFar : MethodName := ⟨RX12, "toldFar", "(I)I"⟩
abbrev cX12_soonest : ByteArray := prog_14_method_81_code
def yX12_soonest : MethodName := ⟨RX12, "soonest", "(I)I"⟩
abbrev cX12_rowsFrom : ByteArray := prog_14_method_82_code
def yX12_rowsFrom : MethodName := ⟨RX12, "rowsFrom", "(III)I"⟩
abbrev cX12_rows : ByteArray := prog_14_method_83_code
def yX12_rows : MethodName := ⟨RX12, "rows", "(II)I"⟩
abbrev cX12_finds : ByteArray := prog_14_method_84_code
def yX12_finds : MethodName := ⟨RX12, "finds", "(IIII)Z"⟩
abbrev cX12_way : ByteArray := prog_14_method_85_code
def yX12_way : MethodName := ⟨RX12, "way", "(II)I"⟩
abbrev cX12_toAndFro : ByteArray := prog_14_method_86_code
def yX12_toAndFro : MethodName := ⟨RX12, "toAndFro", "(I)I"⟩
abbrev cX12_costOf : ByteArray := prog_14_method_87_code
def yX12_costOf : MethodName := ⟨RX12, "costOf", "(I)I"⟩
abbrev cX12_costBy : ByteArray := prog_14_method_88_code
def yX12_costBy : MethodName := ⟨RX12, "costBy", "(II)I"⟩
abbrev cX12_laysCost : ByteArray := prog_14_method_89_code
def yX12_laysCost : MethodName := ⟨RX12, "laysCost", "(I)I"⟩
abbrev cX12_laneAt : ByteArray := prog_14_method_90_code
def yX12_laneAt : MethodName := ⟨RX12, "laneAt", "(I)I"⟩
abbrev cX12_cheapest : ByteArray := prog_14_method_91_code
def yX12_cheapest : MethodName := ⟨RX12, "cheapest", "(II)I"⟩
abbrev cX12_cheapBy : ByteArray := prog_14_method_92_code
def yX12_cheapBy : MethodName := ⟨RX12, "cheapBy", "(II)I"⟩
abbrev cX12_areJoined : ByteArray := prog_14_method_93_code
def yX12_areJoined : MethodName := ⟨RX12, "areJoined", "(I)Z"⟩
abbrev cX12_joins : ByteArray := prog_14_method_94_code
def yX12_joins : MethodName := ⟨RX12, "joins", "(I)I"⟩
abbrev cX12_shuts : ByteArray := prog_14_method_95_code
def yX12_shuts : MethodName := ⟨RX12, "shuts", "(II)I"⟩
abbrev cX12_turnedTo : ByteArray := prog_14_method_96_code
def yX12_turnedTo : MethodName := ⟨RX12, "turnedTo", "(I)I"⟩
abbrev cX12_turning : ByteArray := prog_14_method_97_code
def yX12_turning : MethodName := ⟨RX12, "turning", "(I)I"⟩
abbrev cX12_when : ByteArray := prog_14_method_98_code
def yX12_when : MethodName := ⟨RX12, "when", "(I)I"⟩
abbrev cX12_starts : ByteArray := prog_14_method_99_code
def yX12_starts : MethodName := ⟨RX12, "starts", "(I)I"⟩
abbrev cX12_noWorn : ByteArray := prog_14_method_100_code
def yX12_noWorn : MethodName := ⟨RX12, "noWorn", "(I)I"⟩
abbrev cX12_rainsOf : ByteArray := prog_14_method_101_code
def yX12_rainsOf : MethodName := ⟨RX12, "rainsOf", "(I)I"⟩
abbrev cX12_rains : ByteArray := prog_14_method_102_code
def yX12_rains : MethodName := ⟨RX12, "rains", "(I)I"⟩
abbrev cX12_mostOften : ByteArray := prog_14_method_103_code
def yX12_mostOften : MethodName := ⟨RX12, "mostOften", "(II)I"⟩
abbrev cX12_attempt : ByteArray := prog_14_method_104_code
def yX12_attempt : MethodName := ⟨RX12, "attempt", "(I)I"⟩
abbrev cX12_winsAt : ByteArray := prog_14_method_105_code
def yX12_winsAt : MethodName := ⟨RX12, "winsAt", "(II)Z"⟩
abbrev cX12_winsBy : ByteArray := prog_14_method_106_code
def yX12_winsBy : MethodName := ⟨RX12, "winsBy", "(III)Z"⟩
abbrev cX12_forgets : ByteArray := prog_14_method_107_code
def yX12_forgets : MethodName := ⟨RX12, "forgets", "()V"⟩
abbrev cX12_wins : ByteArray := prog_14_method_108_code
def yX12_wins : MethodName := ⟨RX12, "wins", "()I"⟩
abbrev cX12_best : ByteArray := prog_14_method_109_code
def yX12_best : MethodName := ⟨RX12, "best", "()I"⟩
abbrev cX12_wholeOf : ByteArray := prog_14_method_110_code
def yX12_wholeOf : MethodName := ⟨RX12, "wholeOf", "(I)I"⟩
abbrev cX12_likelyBy : ByteArray := prog_14_method_111_code
def yX12_likelyBy : MethodName := ⟨RX12, "likelyBy", "(III)I"⟩
abbrev cX12_laysLikely : ByteArray := prog_14_method_112_code
def yX12_laysLikely : MethodName := ⟨RX12, "laysLikely", "(II)I"⟩
abbrev cX12_common : ByteArray := prog_14_method_113_code
def yX12_common : MethodName := ⟨RX12, "common", "(II)I"⟩
abbrev cX12_chance : ByteArray := prog_14_method_114_code
def yX12_chance : MethodName := ⟨RX12, "chance", "(III)I"⟩
abbrev cX12_bestBy : ByteArray := prog_14_method_115_code
def yX12_bestBy : MethodName := ⟨RX12, "bestBy", "(II)I"⟩
abbrev cX12_cut : ByteArray := prog_14_method_116_code
def yX12_cut : MethodName := ⟨RX12, "cut", "(JI)J"⟩
abbrev cX12_numbers : ByteArray := prog_14_method_117_code
def yX12_numbers : MethodName := ⟨RX12, "numbers", "(III)I"⟩
abbrev cX12_write : ByteArray := prog_14_method_118_code
def yX12_write : MethodName := ⟨RX12, "write", "(IIJ)J"⟩
abbrev cX12_lists : ByteArray := prog_14_method_119_code
def yX12_lists : MethodName := ⟨RX12, "lists", "(II)I"⟩
abbrev cX12_image : ByteArray := prog_14_method_120_code
def yX12_image : MethodName := ⟨RX12, "image", "(I)I"⟩
abbrev cX12_restore : ByteArray := prog_14_method_121_code
def yX12_restore : MethodName := ⟨RX12, "restore", "(I)I"⟩
abbrev cX12_count : ByteArray := prog_14_method_122_code
def yX12_count : MethodName := ⟨RX12, "count", "(I)I"⟩
def RJx145de : String := "java/io/Serializable"
def TJx145de : u_T := fun k => match k with
  | _ => ("", "", "", false)
def tyJx145de : Nat → FieldType := fun k => match k with
  | _ => .int
abbrev wsJx145de0 : List Cond := u_ws RJx145de TJx145de 0
theorem nmJx145de : ∀ a, a < 0 → ∀ b, b < 0 → a ≠ b → (TJx145de a).2.1 ≠ (TJx145de b).2.1 := by decide +kernel
theorem tyJx145de_ok : ∀ k, k < 0 → parseFieldDescriptor (TJx145de k).2.2.1 = some (tyJx145de k) := by decide +kernel
def RJx9f9b0 : String := "java/lang/CharSequence"
def TJx9f9b0 : u_T := fun k => match k with
  | _ => ("", "", "", false)
def tyJx9f9b0 : Nat → FieldType := fun k => match k with
  | _ => .int
abbrev wsJx9f9b00 : List Cond := u_ws RJx9f9b0 TJx9f9b0 0
theorem nmJx9f9b0 : ∀ a, a < 0 → ∀ b, b < 0 → a ≠ b → (TJx9f9b0 a).2.1 ≠ (TJx9f9b0 b).2.1 := by decide +kernel
theorem tyJx9f9b0_ok : ∀ k, k < 0 → parseFieldDescriptor (TJx9f9b0 k).2.2.1 = some (tyJx9f9b0 k) := by decide +kernel
def RJ11 : String := "java/lang/Character"
def TJ11 : u_T := fun k => match k with
  | _ => ("", "", "", false)
def tyJ11 : Nat → FieldType := fun k => match k with
  | _ => .int
abbrev wsJ110 : List Cond := u_ws RJ11 TJ11 0
theorem nmJ11 : ∀ a, a < 0 → ∀ b, b < 0 → a ≠ b → (TJ11 a).2.1 ≠ (TJ11 b).2.1 := by decide +kernel
theorem tyJ11_ok : ∀ k, k < 0 → parseFieldDescriptor (TJ11 k).2.2.1 = some (tyJ11 k) := by decide +kernel
abbrev cJ11_isValidCodePoint_9a6ad : ByteArray := prog_15_method_11_code
def yJ11_isValidCodePoint_9a6ad : MethodName := ⟨RJ11, "isValidCodePoint", "(I)Z"⟩
abbrev cJ11_highSurrogate_5068e : ByteArray := prog_15_method_28_code
def yJ11_highSurrogate_5068e : MethodName := ⟨RJ11, "highSurrogate", "(I)C"⟩
abbrev cJ11_lowSurrogate_5068e : ByteArray := prog_15_method_29_code
def yJ11_lowSurrogate_5068e : MethodName := ⟨RJ11, "lowSurrogate", "(I)C"⟩
def RJxb160c : String := "java/lang/Comparable"
def TJxb160c : u_T := fun k => match k with
  | _ => ("", "", "", false)
def tyJxb160c : Nat → FieldType := fun k => match k with
  | _ => .int
abbrev wsJxb160c0 : List Cond := u_ws RJxb160c TJxb160c 0
theorem nmJxb160c : ∀ a, a < 0 → ∀ b, b < 0 → a ≠ b → (TJxb160c a).2.1 ≠ (TJxb160c b).2.1 := by decide +kernel
theorem tyJxb160c_ok : ∀ k, k < 0 → parseFieldDescriptor (TJxb160c k).2.2.1 = some (tyJxb160c k) := by decide +kernel
def RJ6 : String := "java/lang/Integer"
def TJ6 : u_T := fun k => match k with
  | _ => ("", "", "", false)
def tyJ6 : Nat → FieldType := fun k => match k with
  | _ => .int
abbrev wsJ60 : List Cond := u_ws RJ6 TJ6 0
theorem nmJ6 : ∀ a, a < 0 → ∀ b, b < 0 → a ≠ b → (TJ6 a).2.1 ≠ (TJ6 b).2.1 := by decide +kernel
theorem tyJ6_ok : ∀ k, k < 0 → parseFieldDescriptor (TJ6 k).2.2.1 = some (tyJ6 k) := by decide +kernel
abbrev cJ6_bitCount_0f7a4 : ByteArray := prog_16_method_49_code
def yJ6_bitCount_0f7a4 : MethodName := ⟨RJ6, "bitCount", "(I)I"⟩
def RJ9 : String := "java/lang/Math"
def TJ9 : u_T := fun k => match k with
  | _ => ("", "", "", false)
def tyJ9 : Nat → FieldType := fun k => match k with
  | _ => .int
abbrev wsJ90 : List Cond := u_ws RJ9 TJ9 0
theorem nmJ9 : ∀ a, a < 0 → ∀ b, b < 0 → a ≠ b → (TJ9 a).2.1 ≠ (TJ9 b).2.1 := by decide +kernel
theorem tyJ9_ok : ∀ k, k < 0 → parseFieldDescriptor (TJ9 k).2.2.1 = some (tyJ9 k) := by decide +kernel
abbrev cJ9_floorMod_7cf53 : ByteArray := prog_17_method_50_code
def yJ9_floorMod_7cf53 : MethodName := ⟨RJ9, "floorMod", "(II)I"⟩
abbrev cJ9_max_7cf53 : ByteArray := prog_17_method_65_code
def yJ9_max_7cf53 : MethodName := ⟨RJ9, "max", "(II)I"⟩
abbrev cJ9_min_7cf53 : ByteArray := prog_17_method_69_code
def yJ9_min_7cf53 : MethodName := ⟨RJ9, "min", "(II)I"⟩
def RJ0 : String := "java/lang/String"
def TJ0 : u_T := fun k => match k with
  | _ => ("", "", "", false)
def tyJ0 : Nat → FieldType := fun k => match k with
  | _ => .int
abbrev wsJ00 : List Cond := u_ws RJ0 TJ0 0
theorem nmJ0 : ∀ a, a < 0 → ∀ b, b < 0 → a ≠ b → (TJ0 a).2.1 ≠ (TJ0 b).2.1 := by decide +kernel
theorem tyJ0_ok : ∀ k, k < 0 → parseFieldDescriptor (TJ0 k).2.2.1 = some (tyJ0 k) := by decide +kernel
abbrev cJ0_length_8abf5 : ByteArray := prog_18_method_54_code
def yJ0_length_8abf5 : MethodName := ⟨RJ0, "length", "()I"⟩
abbrev cJ0_charAt_5068e : ByteArray := prog_18_method_56_code
def yJ0_charAt_5068e : MethodName := ⟨RJ0, "charAt", "(I)C"⟩
abbrev cJ0_indexOf_0f7a4 : ByteArray := prog_18_method_79_code
def yJ0_indexOf_0f7a4 : MethodName := ⟨RJ0, "indexOf", "(I)I"⟩
abbrev cJ0_indexOf_7cf53 : ByteArray := prog_18_method_80_code
def yJ0_indexOf_7cf53 : MethodName := ⟨RJ0, "indexOf", "(II)I"⟩
abbrev cJ0_coder_7d493 : ByteArray := prog_18_method_152_code
def yJ0_coder_7d493 : MethodName := ⟨RJ0, "coder", "()B"⟩
abbrev cJ0_isLatin1_aae02 : ByteArray := prog_18_method_154_code
def yJ0_isLatin1_aae02 : MethodName := ⟨RJ0, "isLatin1", "()Z"⟩
abbrev cJ0_checkIndex_df160 : ByteArray := prog_18_method_155_code
def yJ0_checkIndex_df160 : MethodName := ⟨RJ0, "checkIndex", "(II)V"⟩
abbrev cJ0_checkBoundsBeginEnd_23922 : ByteArray := prog_18_method_158_code
def yJ0_checkBoundsBeginEnd_23922 : MethodName := ⟨RJ0, "checkBoundsBeginEnd", "(III)V"⟩
def RJ1 : String := "java/lang/StringLatin1"
def TJ1 : u_T := fun k => match k with
  | _ => ("", "", "", false)
def tyJ1 : Nat → FieldType := fun k => match k with
  | _ => .int
abbrev wsJ10 : List Cond := u_ws RJ1 TJ1 0
theorem nmJ1 : ∀ a, a < 0 → ∀ b, b < 0 → a ≠ b → (TJ1 a).2.1 ≠ (TJ1 b).2.1 := by decide +kernel
theorem tyJ1_ok : ∀ k, k < 0 → parseFieldDescriptor (TJ1 k).2.2.1 = some (tyJ1 k) := by decide +kernel
abbrev cJ1_charAt_3b067 : ByteArray := prog_19_method_2_code
def yJ1_charAt_3b067 : MethodName := ⟨RJ1, "charAt", "([BI)C"⟩
abbrev cJ1_canEncode_9a6ad : ByteArray := prog_19_method_4_code
def yJ1_canEncode_9a6ad : MethodName := ⟨RJ1, "canEncode", "(I)Z"⟩
abbrev cJ1_indexOf_4cfef : ByteArray := prog_19_method_22_code
def yJ1_indexOf_4cfef : MethodName := ⟨RJ1, "indexOf", "([BIII)I"⟩
abbrev cJ1_indexOfChar_4cfef : ByteArray := prog_19_method_23_code
def yJ1_indexOfChar_4cfef : MethodName := ⟨RJ1, "indexOfChar", "([BIII)I"⟩
def RJ2 : String := "java/lang/StringUTF16"
def TJ2 : u_T := fun k => match k with
  | _ => ("", "", "", false)
def tyJ2 : Nat → FieldType := fun k => match k with
  | _ => .int
abbrev wsJ20 : List Cond := u_ws RJ2 TJ2 0
theorem nmJ2 : ∀ a, a < 0 → ∀ b, b < 0 → a ≠ b → (TJ2 a).2.1 ≠ (TJ2 b).2.1 := by decide +kernel
theorem tyJ2_ok : ∀ k, k < 0 → parseFieldDescriptor (TJ2 k).2.2.1 = some (tyJ2 k) := by decide +kernel
abbrev cJ2_getChar_3b067 : ByteArray := prog_20_method_5_code
def yJ2_getChar_3b067 : MethodName := ⟨RJ2, "getChar", "([BI)C"⟩
abbrev cJ2_length_9d52b : ByteArray := prog_20_method_6_code
def yJ2_length_9d52b : MethodName := ⟨RJ2, "length", "([B)I"⟩
abbrev cJ2_indexOf_4cfef : ByteArray := prog_20_method_40_code
def yJ2_indexOf_4cfef : MethodName := ⟨RJ2, "indexOf", "([BIII)I"⟩
abbrev cJ2_indexOfChar_4cfef : ByteArray := prog_20_method_47_code
def yJ2_indexOfChar_4cfef : MethodName := ⟨RJ2, "indexOfChar", "([BIII)I"⟩
abbrev cJ2_indexOfCharUnsafe_4cfef : ByteArray := prog_20_method_48_code
def yJ2_indexOfCharUnsafe_4cfef : MethodName := ⟨RJ2, "indexOfCharUnsafe", "([BIII)I"⟩
abbrev cJ2_indexOfSupplementary_4cfef : ByteArray := prog_20_method_49_code
def yJ2_indexOfSupplementary_4cfef : MethodName := ⟨RJ2, "indexOfSupplementary", "([BIII)I"⟩
abbrev cJ2_charAt_3b067 : ByteArray := prog_20_method_83_code
def yJ2_charAt_3b067 : MethodName := ⟨RJ2, "charAt", "([BI)C"⟩
abbrev cJ2_checkIndex_2214a : ByteArray := prog_20_method_91_code
def yJ2_checkIndex_2214a : MethodName := ⟨RJ2, "checkIndex", "(I[B)V"⟩
abbrev cJ2_checkBoundsBeginEnd_d044e : ByteArray := prog_20_method_93_code
def yJ2_checkBoundsBeginEnd_d044e : MethodName := ⟨RJ2, "checkBoundsBeginEnd", "(II[B)V"⟩
def RJ10 : String := "java/lang/System"
def TJ10 : u_T := fun k => match k with
  | _ => ("", "", "", false)
def tyJ10 : Nat → FieldType := fun k => match k with
  | _ => .int
abbrev wsJ100 : List Cond := u_ws RJ10 TJ10 0
theorem nmJ10 : ∀ a, a < 0 → ∀ b, b < 0 → a ≠ b → (TJ10 a).2.1 ≠ (TJ10 b).2.1 := by decide +kernel
theorem tyJ10_ok : ∀ k, k < 0 → parseFieldDescriptor (TJ10 k).2.2.1 = some (tyJ10 k) := by decide +kernel
def RJxfd54e : String := "java/lang/constant/Constable"
def TJxfd54e : u_T := fun k => match k with
  | _ => ("", "", "", false)
def tyJxfd54e : Nat → FieldType := fun k => match k with
  | _ => .int
abbrev wsJxfd54e0 : List Cond := u_ws RJxfd54e TJxfd54e 0
theorem nmJxfd54e : ∀ a, a < 0 → ∀ b, b < 0 → a ≠ b → (TJxfd54e a).2.1 ≠ (TJxfd54e b).2.1 := by decide +kernel
theorem tyJxfd54e_ok : ∀ k, k < 0 → parseFieldDescriptor (TJxfd54e k).2.2.1 = some (tyJxfd54e k) := by decide +kernel
def RJx3cf43 : String := "java/lang/constant/ConstantDesc"
def TJx3cf43 : u_T := fun k => match k with
  | _ => ("", "", "", false)
def tyJx3cf43 : Nat → FieldType := fun k => match k with
  | _ => .int
abbrev wsJx3cf430 : List Cond := u_ws RJx3cf43 TJx3cf43 0
theorem nmJx3cf43 : ∀ a, a < 0 → ∀ b, b < 0 → a ≠ b → (TJx3cf43 a).2.1 ≠ (TJx3cf43 b).2.1 := by decide +kernel
theorem tyJx3cf43_ok : ∀ k, k < 0 → parseFieldDescriptor (TJx3cf43 k).2.2.1 = some (tyJx3cf43 k) := by decide +kernel
def RJ7 : String := "java/util/Arrays"
def TJ7 : u_T := fun k => match k with
  | _ => ("", "", "", false)
def tyJ7 : Nat → FieldType := fun k => match k with
  | _ => .int
abbrev wsJ70 : List Cond := u_ws RJ7 TJ7 0
theorem nmJ7 : ∀ a, a < 0 → ∀ b, b < 0 → a ≠ b → (TJ7 a).2.1 ≠ (TJ7 b).2.1 := by decide +kernel
theorem tyJ7_ok : ∀ k, k < 0 → parseFieldDescriptor (TJ7 k).2.2.1 = some (tyJ7 k) := by decide +kernel
abbrev cJ7_fill_d0a16 : ByteArray := prog_22_method_101_code
def yJ7_fill_d0a16 : MethodName := ⟨RJ7, "fill", "([JJ)V"⟩
abbrev cJ7_fill_53178 : ByteArray := prog_22_method_103_code
def yJ7_fill_53178 : MethodName := ⟨RJ7, "fill", "([II)V"⟩
def RJ3 : String := "jdk/internal/util/Preconditions"
def TJ3 : u_T := fun k => match k with
  | _ => ("", "", "", false)
def tyJ3 : Nat → FieldType := fun k => match k with
  | _ => .int
abbrev wsJ30 : List Cond := u_ws RJ3 TJ3 0
theorem nmJ3 : ∀ a, a < 0 → ∀ b, b < 0 → a ≠ b → (TJ3 a).2.1 ≠ (TJ3 b).2.1 := by decide +kernel
theorem tyJ3_ok : ∀ k, k < 0 → parseFieldDescriptor (TJ3 k).2.2.1 = some (tyJ3 k) := by decide +kernel
abbrev cJ3_checkIndex_8e157 : ByteArray := prog_23_method_11_code
def yJ3_checkIndex_8e157 : MethodName := ⟨RJ3, "checkIndex", "(IILjava/util/function/BiFunction;)I"⟩
abbrev cJ3_checkFromToIndex_8c36e : ByteArray := prog_23_method_12_code
def yJ3_checkFromToIndex_8c36e : MethodName := ⟨RJ3, "checkFromToIndex", "(IIILjava/util/function/BiFunction;)I"⟩
def RL : String := "RutWaysLaw"
abbrev cL_law : ByteArray := code
def yL_law : MethodName := ⟨RL, "law", "([I)Z"⟩
