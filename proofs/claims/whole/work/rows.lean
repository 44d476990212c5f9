section
-- ===== PART A: goes FIRST, ahead of the names: the tables' words, and 'selects' of the private methods out of them =====
/-- a private method of a class that the tables say can be made, by its rows of tables_1 -/
def lw_okq (q : MethodName × Nat) : Prop := (q.1.cls ≠ "java/lang/invoke/MethodHandle" ∧ q.1.cls ≠ "java/lang/invoke/VarHandle") ∧ Cond.instantiable q.1.cls q.2 ∈ tables_1 ∧ Cond.privateMethod q.1 ∈ tables_1 ∧ Cond.instanceMethod q.1 ∈ tables_1
theorem lw_p0 : lw_okq (⟨"java/lang/Throwable", "fillInStackTrace", "(I)Ljava/lang/Throwable;"⟩, 6) := ⟨⟨by decide +kernel, by decide +kernel⟩, List.mem_of_getElem? (i := 478) (by decide +kernel), List.mem_of_getElem? (i := 476) (by decide +kernel), List.mem_of_getElem? (i := 477) (by decide +kernel)⟩
theorem lw_p1 : lw_okq (⟨"RowPacker$Packer", "writeHead", "(I)V"⟩, 16) := ⟨⟨by decide +kernel, by decide +kernel⟩, List.mem_of_getElem? (i := 108) (by decide +kernel), List.mem_of_getElem? (i := 597) (by decide +kernel), List.mem_of_getElem? (i := 598) (by decide +kernel)⟩
theorem lw_p2 : lw_okq (⟨"RowPacker$Packer", "takePieces", "()V"⟩, 16) := ⟨⟨by decide +kernel, by decide +kernel⟩, List.mem_of_getElem? (i := 108) (by decide +kernel), List.mem_of_getElem? (i := 607) (by decide +kernel), List.mem_of_getElem? (i := 608) (by decide +kernel)⟩
theorem lw_p3 : lw_okq (⟨"RowPacker$Packer", "takePiece", "()V"⟩, 16) := ⟨⟨by decide +kernel, by decide +kernel⟩, List.mem_of_getElem? (i := 108) (by decide +kernel), List.mem_of_getElem? (i := 611) (by decide +kernel), List.mem_of_getElem? (i := 612) (by decide +kernel)⟩
theorem lw_p4 : lw_okq (⟨"RowPacker$Finder", "enterPlacesBefore", "(I)V"⟩, 7) := ⟨⟨by decide +kernel, by decide +kernel⟩, List.mem_of_getElem? (i := 207) (by decide +kernel), List.mem_of_getElem? (i := 619) (by decide +kernel), List.mem_of_getElem? (i := 620) (by decide +kernel)⟩
theorem lw_p5 : lw_okq (⟨"RowPacker$Finder", "keyAt", "(I)I"⟩, 7) := ⟨⟨by decide +kernel, by decide +kernel⟩, List.mem_of_getElem? (i := 207) (by decide +kernel), List.mem_of_getElem? (i := 623) (by decide +kernel), List.mem_of_getElem? (i := 624) (by decide +kernel)⟩
theorem lw_p6 : lw_okq (⟨"RowPacker$Finder", "search", "(II)V"⟩, 7) := ⟨⟨by decide +kernel, by decide +kernel⟩, List.mem_of_getElem? (i := 207) (by decide +kernel), List.mem_of_getElem? (i := 631) (by decide +kernel), List.mem_of_getElem? (i := 632) (by decide +kernel)⟩
theorem lw_p7 : lw_okq (⟨"RowPacker$Finder", "sameBytes", "(III)I"⟩, 7) := ⟨⟨by decide +kernel, by decide +kernel⟩, List.mem_of_getElem? (i := 207) (by decide +kernel), List.mem_of_getElem? (i := 638) (by decide +kernel), List.mem_of_getElem? (i := 639) (by decide +kernel)⟩
theorem lw_p8 : lw_okq (⟨"RowPacker$Packer", "takeStretch", "(II)V"⟩, 16) := ⟨⟨by decide +kernel, by decide +kernel⟩, List.mem_of_getElem? (i := 108) (by decide +kernel), List.mem_of_getElem? (i := 642) (by decide +kernel), List.mem_of_getElem? (i := 643) (by decide +kernel)⟩
theorem lw_p9 : lw_okq (⟨"RowPacker$Packer", "takeByte", "()V"⟩, 16) := ⟨⟨by decide +kernel, by decide +kernel⟩, List.mem_of_getElem? (i := 108) (by decide +kernel), List.mem_of_getElem? (i := 661) (by decide +kernel), List.mem_of_getElem? (i := 662) (by decide +kernel)⟩
theorem lw_p10 : lw_okq (⟨"RowPacker$Weigher", "sortSymbols", "([I)V"⟩, 6) := ⟨⟨by decide +kernel, by decide +kernel⟩, List.mem_of_getElem? (i := 142) (by decide +kernel), List.mem_of_getElem? (i := 674) (by decide +kernel), List.mem_of_getElem? (i := 675) (by decide +kernel)⟩
theorem lw_p11 : lw_okq (⟨"RowPacker$Weigher", "makeRow", "(II)I"⟩, 6) := ⟨⟨by decide +kernel, by decide +kernel⟩, List.mem_of_getElem? (i := 142) (by decide +kernel), List.mem_of_getElem? (i := 679) (by decide +kernel), List.mem_of_getElem? (i := 680) (by decide +kernel)⟩
theorem lw_p12 : lw_okq (⟨"RowPacker$Weigher", "countSymbols", "(I[I)V"⟩, 6) := ⟨⟨by decide +kernel, by decide +kernel⟩, List.mem_of_getElem? (i := 142) (by decide +kernel), List.mem_of_getElem? (i := 683) (by decide +kernel), List.mem_of_getElem? (i := 684) (by decide +kernel)⟩
theorem lw_p13 : lw_okq (⟨"RowPacker$MadeCodes", "tellRow", "(I)V"⟩, 12) := ⟨⟨by decide +kernel, by decide +kernel⟩, List.mem_of_getElem? (i := 134) (by decide +kernel), List.mem_of_getElem? (i := 695) (by decide +kernel), List.mem_of_getElem? (i := 696) (by decide +kernel)⟩
theorem lw_p14 : lw_okq (⟨"RowPacker$MadeCodes", "tellRun", "(II)V"⟩, 12) := ⟨⟨by decide +kernel, by decide +kernel⟩, List.mem_of_getElem? (i := 134) (by decide +kernel), List.mem_of_getElem? (i := 699) (by decide +kernel), List.mem_of_getElem? (i := 700) (by decide +kernel)⟩
theorem lw_p15 : lw_okq (⟨"RowPacker$MadeCodes", "tell", "(II)V"⟩, 12) := ⟨⟨by decide +kernel, by decide +kernel⟩, List.mem_of_getElem? (i := 134) (by decide +kernel), List.mem_of_getElem? (i := 703) (by decide +kernel), List.mem_of_getElem? (i := 704) (by decide +kernel)⟩
def lw_privs_1 : List (MethodName × Nat) := [(⟨"java/lang/Throwable", "fillInStackTrace", "(I)Ljava/lang/Throwable;"⟩, 6), (⟨"RowPacker$Packer", "writeHead", "(I)V"⟩, 16), (⟨"RowPacker$Packer", "takePieces", "()V"⟩, 16), (⟨"RowPacker$Packer", "takePiece", "()V"⟩, 16), (⟨"RowPacker$Finder", "enterPlacesBefore", "(I)V"⟩, 7), (⟨"RowPacker$Finder", "keyAt", "(I)I"⟩, 7), (⟨"RowPacker$Finder", "search", "(II)V"⟩, 7), (⟨"RowPacker$Finder", "sameBytes", "(III)I"⟩, 7), (⟨"RowPacker$Packer", "takeStretch", "(II)V"⟩, 16), (⟨"RowPacker$Packer", "takeByte", "()V"⟩, 16), (⟨"RowPacker$Weigher", "sortSymbols", "([I)V"⟩, 6), (⟨"RowPacker$Weigher", "makeRow", "(II)I"⟩, 6), (⟨"RowPacker$Weigher", "countSymbols", "(I[I)V"⟩, 6), (⟨"RowPacker$MadeCodes", "tellRow", "(I)V"⟩, 12), (⟨"RowPacker$MadeCodes", "tellRun", "(II)V"⟩, 12), (⟨"RowPacker$MadeCodes", "tell", "(II)V"⟩, 12)]
theorem lw_r1 : ∀ q ∈ lw_privs_1, lw_okq q := List.forall_mem_cons.mpr ⟨lw_p0, List.forall_mem_cons.mpr ⟨lw_p1, List.forall_mem_cons.mpr ⟨lw_p2, List.forall_mem_cons.mpr ⟨lw_p3, List.forall_mem_cons.mpr ⟨lw_p4, List.forall_mem_cons.mpr ⟨lw_p5, List.forall_mem_cons.mpr ⟨lw_p6, List.forall_mem_cons.mpr ⟨lw_p7, List.forall_mem_cons.mpr ⟨lw_p8, List.forall_mem_cons.mpr ⟨lw_p9, List.forall_mem_cons.mpr ⟨lw_p10, List.forall_mem_cons.mpr ⟨lw_p11, List.forall_mem_cons.mpr ⟨lw_p12, List.forall_mem_cons.mpr ⟨lw_p13, List.forall_mem_cons.mpr ⟨lw_p14, List.forall_mem_cons.mpr ⟨lw_p15, fun _ h => absurd h List.not_mem_nil⟩⟩⟩⟩⟩⟩⟩⟩⟩⟩⟩⟩⟩⟩⟩⟩
theorem lw_p16 : lw_okq (⟨"RowPacker$MadeCodes", "weighTold", "()V"⟩, 12) := ⟨⟨by decide +kernel, by decide +kernel⟩, List.mem_of_getElem? (i := 134) (by decide +kernel), List.mem_of_getElem? (i := 708) (by decide +kernel), List.mem_of_getElem? (i := 709) (by decide +kernel)⟩
theorem lw_p17 : lw_okq (⟨"RowPacker$Packer", "writeBlock", "(Z)V"⟩, 16) := ⟨⟨by decide +kernel, by decide +kernel⟩, List.mem_of_getElem? (i := 108) (by decide +kernel), List.mem_of_getElem? (i := 715) (by decide +kernel), List.mem_of_getElem? (i := 716) (by decide +kernel)⟩
theorem lw_p18 : lw_okq (⟨"RowPacker$Packer", "fewestBits", "(I)I"⟩, 16) := ⟨⟨by decide +kernel, by decide +kernel⟩, List.mem_of_getElem? (i := 108) (by decide +kernel), List.mem_of_getElem? (i := 723) (by decide +kernel), List.mem_of_getElem? (i := 724) (by decide +kernel)⟩
theorem lw_p19 : lw_okq (⟨"RowPacker$Packer", "writePlain", "()V"⟩, 16) := ⟨⟨by decide +kernel, by decide +kernel⟩, List.mem_of_getElem? (i := 108) (by decide +kernel), List.mem_of_getElem? (i := 738) (by decide +kernel), List.mem_of_getElem? (i := 739) (by decide +kernel)⟩
theorem lw_p20 : lw_okq (⟨"RowPacker$Packer", "writePieces", "(LRowPacker$WriteCode;LRowPacker$WriteCode;)V"⟩, 16) := ⟨⟨by decide +kernel, by decide +kernel⟩, List.mem_of_getElem? (i := 108) (by decide +kernel), List.mem_of_getElem? (i := 748) (by decide +kernel), List.mem_of_getElem? (i := 749) (by decide +kernel)⟩
theorem lw_p21 : lw_okq (⟨"RowPacker$Packer", "writeTail", "(I)V"⟩, 16) := ⟨⟨by decide +kernel, by decide +kernel⟩, List.mem_of_getElem? (i := 108) (by decide +kernel), List.mem_of_getElem? (i := 775) (by decide +kernel), List.mem_of_getElem? (i := 776) (by decide +kernel)⟩
theorem lw_p22 : lw_okq (⟨"RowPacker$Unpacker", "readHead", "(I)Z"⟩, 13) := ⟨⟨by decide +kernel, by decide +kernel⟩, List.mem_of_getElem? (i := 317) (by decide +kernel), List.mem_of_getElem? (i := 808) (by decide +kernel), List.mem_of_getElem? (i := 809) (by decide +kernel)⟩
theorem lw_p23 : lw_okq (⟨"RowPacker$Unpacker", "readShortHead", "()Z"⟩, 13) := ⟨⟨by decide +kernel, by decide +kernel⟩, List.mem_of_getElem? (i := 317) (by decide +kernel), List.mem_of_getElem? (i := 812) (by decide +kernel), List.mem_of_getElem? (i := 813) (by decide +kernel)⟩
theorem lw_p24 : lw_okq (⟨"RowPacker$Unpacker", "readNumber", "(I)I"⟩, 13) := ⟨⟨by decide +kernel, by decide +kernel⟩, List.mem_of_getElem? (i := 317) (by decide +kernel), List.mem_of_getElem? (i := 816) (by decide +kernel), List.mem_of_getElem? (i := 817) (by decide +kernel)⟩
theorem lw_p25 : lw_okq (⟨"RowPacker$Unpacker", "fail", "(II)Z"⟩, 13) := ⟨⟨by decide +kernel, by decide +kernel⟩, List.mem_of_getElem? (i := 317) (by decide +kernel), List.mem_of_getElem? (i := 820) (by decide +kernel), List.mem_of_getElem? (i := 821) (by decide +kernel)⟩
theorem lw_p26 : lw_okq (⟨"RowPacker$Unpacker", "readLongHead", "()Z"⟩, 13) := ⟨⟨by decide +kernel, by decide +kernel⟩, List.mem_of_getElem? (i := 317) (by decide +kernel), List.mem_of_getElem? (i := 824) (by decide +kernel), List.mem_of_getElem? (i := 825) (by decide +kernel)⟩
theorem lw_p27 : lw_okq (⟨"RowPacker$Unpacker", "readByteThatIs", "(I)Z"⟩, 13) := ⟨⟨by decide +kernel, by decide +kernel⟩, List.mem_of_getElem? (i := 317) (by decide +kernel), List.mem_of_getElem? (i := 828) (by decide +kernel), List.mem_of_getElem? (i := 829) (by decide +kernel)⟩
theorem lw_p28 : lw_okq (⟨"RowPacker$Unpacker", "skipBytes", "(I)Z"⟩, 13) := ⟨⟨by decide +kernel, by decide +kernel⟩, List.mem_of_getElem? (i := 317) (by decide +kernel), List.mem_of_getElem? (i := 832) (by decide +kernel), List.mem_of_getElem? (i := 833) (by decide +kernel)⟩
theorem lw_p29 : lw_okq (⟨"RowPacker$Unpacker", "skipThroughZero", "()Z"⟩, 13) := ⟨⟨by decide +kernel, by decide +kernel⟩, List.mem_of_getElem? (i := 317) (by decide +kernel), List.mem_of_getElem? (i := 836) (by decide +kernel), List.mem_of_getElem? (i := 837) (by decide +kernel)⟩
theorem lw_p30 : lw_okq (⟨"RowPacker$Unpacker", "readSumOfHead", "(I)Z"⟩, 13) := ⟨⟨by decide +kernel, by decide +kernel⟩, List.mem_of_getElem? (i := 317) (by decide +kernel), List.mem_of_getElem? (i := 841) (by decide +kernel), List.mem_of_getElem? (i := 842) (by decide +kernel)⟩
theorem lw_p31 : lw_okq (⟨"RowPacker$Unpacker", "readBlocks", "()Z"⟩, 13) := ⟨⟨by decide +kernel, by decide +kernel⟩, List.mem_of_getElem? (i := 317) (by decide +kernel), List.mem_of_getElem? (i := 847) (by decide +kernel), List.mem_of_getElem? (i := 848) (by decide +kernel)⟩
def lw_privs_2 : List (MethodName × Nat) := [(⟨"RowPacker$MadeCodes", "weighTold", "()V"⟩, 12), (⟨"RowPacker$Packer", "writeBlock", "(Z)V"⟩, 16), (⟨"RowPacker$Packer", "fewestBits", "(I)I"⟩, 16), (⟨"RowPacker$Packer", "writePlain", "()V"⟩, 16), (⟨"RowPacker$Packer", "writePieces", "(LRowPacker$WriteCode;LRowPacker$WriteCode;)V"⟩, 16), (⟨"RowPacker$Packer", "writeTail", "(I)V"⟩, 16), (⟨"RowPacker$Unpacker", "readHead", "(I)Z"⟩, 13), (⟨"RowPacker$Unpacker", "readShortHead", "()Z"⟩, 13), (⟨"RowPacker$Unpacker", "readNumber", "(I)I"⟩, 13), (⟨"RowPacker$Unpacker", "fail", "(II)Z"⟩, 13), (⟨"RowPacker$Unpacker", "readLongHead", "()Z"⟩, 13), (⟨"RowPacker$Unpacker", "readByteThatIs", "(I)Z"⟩, 13), (⟨"RowPacker$Unpacker", "skipBytes", "(I)Z"⟩, 13), (⟨"RowPacker$Unpacker", "skipThroughZero", "()Z"⟩, 13), (⟨"RowPacker$Unpacker", "readSumOfHead", "(I)Z"⟩, 13), (⟨"RowPacker$Unpacker", "readBlocks", "()Z"⟩, 13)]
theorem lw_r2 : ∀ q ∈ lw_privs_2, lw_okq q := List.forall_mem_cons.mpr ⟨lw_p16, List.forall_mem_cons.mpr ⟨lw_p17, List.forall_mem_cons.mpr ⟨lw_p18, List.forall_mem_cons.mpr ⟨lw_p19, List.forall_mem_cons.mpr ⟨lw_p20, List.forall_mem_cons.mpr ⟨lw_p21, List.forall_mem_cons.mpr ⟨lw_p22, List.forall_mem_cons.mpr ⟨lw_p23, List.forall_mem_cons.mpr ⟨lw_p24, List.forall_mem_cons.mpr ⟨lw_p25, List.forall_mem_cons.mpr ⟨lw_p26, List.forall_mem_cons.mpr ⟨lw_p27, List.forall_mem_cons.mpr ⟨lw_p28, List.forall_mem_cons.mpr ⟨lw_p29, List.forall_mem_cons.mpr ⟨lw_p30, List.forall_mem_cons.mpr ⟨lw_p31, fun _ h => absurd h List.not_mem_nil⟩⟩⟩⟩⟩⟩⟩⟩⟩⟩⟩⟩⟩⟩⟩⟩
theorem lw_p32 : lw_okq (⟨"RowPacker$Unpacker", "readPlain", "()Z"⟩, 13) := ⟨⟨by decide +kernel, by decide +kernel⟩, List.mem_of_getElem? (i := 317) (by decide +kernel), List.mem_of_getElem? (i := 852) (by decide +kernel), List.mem_of_getElem? (i := 853) (by decide +kernel)⟩
theorem lw_p33 : lw_okq (⟨"RowPacker$Unpacker", "goToNextByte", "()V"⟩, 13) := ⟨⟨by decide +kernel, by decide +kernel⟩, List.mem_of_getElem? (i := 317) (by decide +kernel), List.mem_of_getElem? (i := 856) (by decide +kernel), List.mem_of_getElem? (i := 857) (by decide +kernel)⟩
theorem lw_p34 : lw_okq (⟨"RowPacker$Unpacker", "readSymbols", "(LRowPacker$ReadCode;LRowPacker$ReadCode;)Z"⟩, 13) := ⟨⟨by decide +kernel, by decide +kernel⟩, List.mem_of_getElem? (i := 317) (by decide +kernel), List.mem_of_getElem? (i := 863) (by decide +kernel), List.mem_of_getElem? (i := 864) (by decide +kernel)⟩
theorem lw_p35 : lw_okq (⟨"RowPacker$Unpacker", "readSymbol", "(LRowPacker$ReadCode;)I"⟩, 13) := ⟨⟨by decide +kernel, by decide +kernel⟩, List.mem_of_getElem? (i := 317) (by decide +kernel), List.mem_of_getElem? (i := 867) (by decide +kernel), List.mem_of_getElem? (i := 868) (by decide +kernel)⟩
theorem lw_p36 : lw_okq (⟨"RowPacker$Unpacker", "readStretch", "(IILRowPacker$ReadCode;)Z"⟩, 13) := ⟨⟨by decide +kernel, by decide +kernel⟩, List.mem_of_getElem? (i := 317) (by decide +kernel), List.mem_of_getElem? (i := 871) (by decide +kernel), List.mem_of_getElem? (i := 872) (by decide +kernel)⟩
theorem lw_p37 : lw_okq (⟨"RowPacker$Unpacker", "readCodes", "()Z"⟩, 13) := ⟨⟨by decide +kernel, by decide +kernel⟩, List.mem_of_getElem? (i := 317) (by decide +kernel), List.mem_of_getElem? (i := 881) (by decide +kernel), List.mem_of_getElem? (i := 882) (by decide +kernel)⟩
theorem lw_p38 : lw_okq (⟨"RowPacker$Unpacker", "readCodeOfLengths", "()Z"⟩, 13) := ⟨⟨by decide +kernel, by decide +kernel⟩, List.mem_of_getElem? (i := 317) (by decide +kernel), List.mem_of_getElem? (i := 885) (by decide +kernel), List.mem_of_getElem? (i := 886) (by decide +kernel)⟩
theorem lw_p39 : lw_okq (⟨"RowPacker$Unpacker", "readLengths", "(I)Z"⟩, 13) := ⟨⟨by decide +kernel, by decide +kernel⟩, List.mem_of_getElem? (i := 317) (by decide +kernel), List.mem_of_getElem? (i := 1170) (by decide +kernel), List.mem_of_getElem? (i := 1171) (by decide +kernel)⟩
theorem lw_p40 : lw_okq (⟨"RowPacker$Unpacker", "readTail", "(I)Z"⟩, 13) := ⟨⟨by decide +kernel, by decide +kernel⟩, List.mem_of_getElem? (i := 317) (by decide +kernel), List.mem_of_getElem? (i := 1180) (by decide +kernel), List.mem_of_getElem? (i := 1181) (by decide +kernel)⟩
theorem lw_p41 : lw_okq (⟨"RowPacker$Unpacker", "readFourThatAre", "(JZI)Z"⟩, 13) := ⟨⟨by decide +kernel, by decide +kernel⟩, List.mem_of_getElem? (i := 317) (by decide +kernel), List.mem_of_getElem? (i := 1185) (by decide +kernel), List.mem_of_getElem? (i := 1186) (by decide +kernel)⟩
theorem lw_p42 : lw_okq (⟨"RowPackerModel", "type", "(I)V"⟩, 34) := ⟨⟨by decide +kernel, by decide +kernel⟩, List.mem_of_getElem? (i := 1220) (by decide +kernel), List.mem_of_getElem? (i := 1340) (by decide +kernel), List.mem_of_getElem? (i := 1341) (by decide +kernel)⟩
theorem lw_p43 : lw_okq (⟨"RowPackerModel", "clear", "()V"⟩, 34) := ⟨⟨by decide +kernel, by decide +kernel⟩, List.mem_of_getElem? (i := 1220) (by decide +kernel), List.mem_of_getElem? (i := 1376) (by decide +kernel), List.mem_of_getElem? (i := 1377) (by decide +kernel)⟩
theorem lw_p44 : lw_okq (⟨"RowPackerModel", "readBlocks", "()V"⟩, 34) := ⟨⟨by decide +kernel, by decide +kernel⟩, List.mem_of_getElem? (i := 1220) (by decide +kernel), List.mem_of_getElem? (i := 1380) (by decide +kernel), List.mem_of_getElem? (i := 1381) (by decide +kernel)⟩
theorem lw_p45 : lw_okq (⟨"RowPackerModel", "bit", "()I"⟩, 34) := ⟨⟨by decide +kernel, by decide +kernel⟩, List.mem_of_getElem? (i := 1220) (by decide +kernel), List.mem_of_getElem? (i := 1384) (by decide +kernel), List.mem_of_getElem? (i := 1385) (by decide +kernel)⟩
theorem lw_p46 : lw_okq (⟨"RowPackerModel", "fail", "(II)V"⟩, 34) := ⟨⟨by decide +kernel, by decide +kernel⟩, List.mem_of_getElem? (i := 1220) (by decide +kernel), List.mem_of_getElem? (i := 1388) (by decide +kernel), List.mem_of_getElem? (i := 1389) (by decide +kernel)⟩
theorem lw_p47 : lw_okq (⟨"RowPackerModel", "number", "(I)I"⟩, 34) := ⟨⟨by decide +kernel, by decide +kernel⟩, List.mem_of_getElem? (i := 1220) (by decide +kernel), List.mem_of_getElem? (i := 1392) (by decide +kernel), List.mem_of_getElem? (i := 1393) (by decide +kernel)⟩
def lw_privs_3 : List (MethodName × Nat) := [(⟨"RowPacker$Unpacker", "readPlain", "()Z"⟩, 13), (⟨"RowPacker$Unpacker", "goToNextByte", "()V"⟩, 13), (⟨"RowPacker$Unpacker", "readSymbols", "(LRowPacker$ReadCode;LRowPacker$ReadCode;)Z"⟩, 13), (⟨"RowPacker$Unpacker", "readSymbol", "(LRowPacker$ReadCode;)I"⟩, 13), (⟨"RowPacker$Unpacker", "readStretch", "(IILRowPacker$ReadCode;)Z"⟩, 13), (⟨"RowPacker$Unpacker", "readCodes", "()Z"⟩, 13), (⟨"RowPacker$Unpacker", "readCodeOfLengths", "()Z"⟩, 13), (⟨"RowPacker$Unpacker", "readLengths", "(I)Z"⟩, 13), (⟨"RowPacker$Unpacker", "readTail", "(I)Z"⟩, 13), (⟨"RowPacker$Unpacker", "readFourThatAre", "(JZI)Z"⟩, 13), (⟨"RowPackerModel", "type", "(I)V"⟩, 34), (⟨"RowPackerModel", "clear", "()V"⟩, 34), (⟨"RowPackerModel", "readBlocks", "()V"⟩, 34), (⟨"RowPackerModel", "bit", "()I"⟩, 34), (⟨"RowPackerModel", "fail", "(II)V"⟩, 34), (⟨"RowPackerModel", "number", "(I)I"⟩, 34)]
theorem lw_r3 : ∀ q ∈ lw_privs_3, lw_okq q := List.forall_mem_cons.mpr ⟨lw_p32, List.forall_mem_cons.mpr ⟨lw_p33, List.forall_mem_cons.mpr ⟨lw_p34, List.forall_mem_cons.mpr ⟨lw_p35, List.forall_mem_cons.mpr ⟨lw_p36, List.forall_mem_cons.mpr ⟨lw_p37, List.forall_mem_cons.mpr ⟨lw_p38, List.forall_mem_cons.mpr ⟨lw_p39, List.forall_mem_cons.mpr ⟨lw_p40, List.forall_mem_cons.mpr ⟨lw_p41, List.forall_mem_cons.mpr ⟨lw_p42, List.forall_mem_cons.mpr ⟨lw_p43, List.forall_mem_cons.mpr ⟨lw_p44, List.forall_mem_cons.mpr ⟨lw_p45, List.forall_mem_cons.mpr ⟨lw_p46, List.forall_mem_cons.mpr ⟨lw_p47, fun _ h => absurd h List.not_mem_nil⟩⟩⟩⟩⟩⟩⟩⟩⟩⟩⟩⟩⟩⟩⟩⟩
theorem lw_p48 : lw_okq (⟨"RowPackerModel", "readPlain", "()V"⟩, 34) := ⟨⟨by decide +kernel, by decide +kernel⟩, List.mem_of_getElem? (i := 1220) (by decide +kernel), List.mem_of_getElem? (i := 1396) (by decide +kernel), List.mem_of_getElem? (i := 1397) (by decide +kernel)⟩
theorem lw_p49 : lw_okq (⟨"RowPackerModel", "toByte", "()V"⟩, 34) := ⟨⟨by decide +kernel, by decide +kernel⟩, List.mem_of_getElem? (i := 1220) (by decide +kernel), List.mem_of_getElem? (i := 1400) (by decide +kernel), List.mem_of_getElem? (i := 1401) (by decide +kernel)⟩
theorem lw_p50 : lw_okq (⟨"RowPackerModel", "put", "(I)V"⟩, 34) := ⟨⟨by decide +kernel, by decide +kernel⟩, List.mem_of_getElem? (i := 1220) (by decide +kernel), List.mem_of_getElem? (i := 1405) (by decide +kernel), List.mem_of_getElem? (i := 1406) (by decide +kernel)⟩
theorem lw_p51 : lw_okq (⟨"RowPackerModel", "plainLengths", "()V"⟩, 34) := ⟨⟨by decide +kernel, by decide +kernel⟩, List.mem_of_getElem? (i := 1220) (by decide +kernel), List.mem_of_getElem? (i := 1409) (by decide +kernel), List.mem_of_getElem? (i := 1410) (by decide +kernel)⟩
theorem lw_p52 : lw_okq (⟨"RowPackerModel", "prepare", "(III)I"⟩, 34) := ⟨⟨by decide +kernel, by decide +kernel⟩, List.mem_of_getElem? (i := 1220) (by decide +kernel), List.mem_of_getElem? (i := 1413) (by decide +kernel), List.mem_of_getElem? (i := 1414) (by decide +kernel)⟩
theorem lw_p53 : lw_okq (⟨"RowPackerModel", "readCodes", "()I"⟩, 34) := ⟨⟨by decide +kernel, by decide +kernel⟩, List.mem_of_getElem? (i := 1220) (by decide +kernel), List.mem_of_getElem? (i := 1417) (by decide +kernel), List.mem_of_getElem? (i := 1418) (by decide +kernel)⟩
theorem lw_p54 : lw_okq (⟨"RowPackerModel", "readRow", "(I)V"⟩, 34) := ⟨⟨by decide +kernel, by decide +kernel⟩, List.mem_of_getElem? (i := 1220) (by decide +kernel), List.mem_of_getElem? (i := 1424) (by decide +kernel), List.mem_of_getElem? (i := 1425) (by decide +kernel)⟩
theorem lw_p55 : lw_okq (⟨"RowPackerModel", "symbol", "(II)I"⟩, 34) := ⟨⟨by decide +kernel, by decide +kernel⟩, List.mem_of_getElem? (i := 1220) (by decide +kernel), List.mem_of_getElem? (i := 1428) (by decide +kernel), List.mem_of_getElem? (i := 1429) (by decide +kernel)⟩
theorem lw_p56 : lw_okq (⟨"RowPackerModel", "readSymbols", "(I)V"⟩, 34) := ⟨⟨by decide +kernel, by decide +kernel⟩, List.mem_of_getElem? (i := 1220) (by decide +kernel), List.mem_of_getElem? (i := 1432) (by decide +kernel), List.mem_of_getElem? (i := 1433) (by decide +kernel)⟩
theorem lw_p57 : lw_okq (⟨"RowPackerModel", "distance", "(I)I"⟩, 34) := ⟨⟨by decide +kernel, by decide +kernel⟩, List.mem_of_getElem? (i := 1220) (by decide +kernel), List.mem_of_getElem? (i := 1442) (by decide +kernel), List.mem_of_getElem? (i := 1443) (by decide +kernel)⟩
theorem lw_p58 : lw_okq (⟨"RowPackerModel", "note", "(IIII)V"⟩, 34) := ⟨⟨by decide +kernel, by decide +kernel⟩, List.mem_of_getElem? (i := 1220) (by decide +kernel), List.mem_of_getElem? (i := 1452) (by decide +kernel), List.mem_of_getElem? (i := 1453) (by decide +kernel)⟩
theorem lw_p59 : lw_okq (⟨"RowPackerModel", "wantEnd", "()V"⟩, 34) := ⟨⟨by decide +kernel, by decide +kernel⟩, List.mem_of_getElem? (i := 1220) (by decide +kernel), List.mem_of_getElem? (i := 1456) (by decide +kernel), List.mem_of_getElem? (i := 1457) (by decide +kernel)⟩
theorem lw_p60 : lw_okq (⟨"RowPackerModel", "readShort", "()V"⟩, 34) := ⟨⟨by decide +kernel, by decide +kernel⟩, List.mem_of_getElem? (i := 1220) (by decide +kernel), List.mem_of_getElem? (i := 1460) (by decide +kernel), List.mem_of_getElem? (i := 1461) (by decide +kernel)⟩
theorem lw_p61 : lw_okq (⟨"RowPackerModel", "wrapped", "()I"⟩, 34) := ⟨⟨by decide +kernel, by decide +kernel⟩, List.mem_of_getElem? (i := 1220) (by decide +kernel), List.mem_of_getElem? (i := 1464) (by decide +kernel), List.mem_of_getElem? (i := 1465) (by decide +kernel)⟩
theorem lw_p62 : lw_okq (⟨"RowPackerModel", "readLong", "()V"⟩, 34) := ⟨⟨by decide +kernel, by decide +kernel⟩, List.mem_of_getElem? (i := 1220) (by decide +kernel), List.mem_of_getElem? (i := 1469) (by decide +kernel), List.mem_of_getElem? (i := 1470) (by decide +kernel)⟩
theorem lw_p63 : lw_okq (⟨"RowPackerModel", "readHead", "()V"⟩, 34) := ⟨⟨by decide +kernel, by decide +kernel⟩, List.mem_of_getElem? (i := 1220) (by decide +kernel), List.mem_of_getElem? (i := 1473) (by decide +kernel), List.mem_of_getElem? (i := 1474) (by decide +kernel)⟩
def lw_privs_4 : List (MethodName × Nat) := [(⟨"RowPackerModel", "readPlain", "()V"⟩, 34), (⟨"RowPackerModel", "toByte", "()V"⟩, 34), (⟨"RowPackerModel", "put", "(I)V"⟩, 34), (⟨"RowPackerModel", "plainLengths", "()V"⟩, 34), (⟨"RowPackerModel", "prepare", "(III)I"⟩, 34), (⟨"RowPackerModel", "readCodes", "()I"⟩, 34), (⟨"RowPackerModel", "readRow", "(I)V"⟩, 34), (⟨"RowPackerModel", "symbol", "(II)I"⟩, 34), (⟨"RowPackerModel", "readSymbols", "(I)V"⟩, 34), (⟨"RowPackerModel", "distance", "(I)I"⟩, 34), (⟨"RowPackerModel", "note", "(IIII)V"⟩, 34), (⟨"RowPackerModel", "wantEnd", "()V"⟩, 34), (⟨"RowPackerModel", "readShort", "()V"⟩, 34), (⟨"RowPackerModel", "wrapped", "()I"⟩, 34), (⟨"RowPackerModel", "readLong", "()V"⟩, 34), (⟨"RowPackerModel", "readHead", "()V"⟩, 34)]
theorem lw_r4 : ∀ q ∈ lw_privs_4, lw_okq q := List.forall_mem_cons.mpr ⟨lw_p48, List.forall_mem_cons.mpr ⟨lw_p49, List.forall_mem_cons.mpr ⟨lw_p50, List.forall_mem_cons.mpr ⟨lw_p51, List.forall_mem_cons.mpr ⟨lw_p52, List.forall_mem_cons.mpr ⟨lw_p53, List.forall_mem_cons.mpr ⟨lw_p54, List.forall_mem_cons.mpr ⟨lw_p55, List.forall_mem_cons.mpr ⟨lw_p56, List.forall_mem_cons.mpr ⟨lw_p57, List.forall_mem_cons.mpr ⟨lw_p58, List.forall_mem_cons.mpr ⟨lw_p59, List.forall_mem_cons.mpr ⟨lw_p60, List.forall_mem_cons.mpr ⟨lw_p61, List.forall_mem_cons.mpr ⟨lw_p62, List.forall_mem_cons.mpr ⟨lw_p63, fun _ h => absurd h List.not_mem_nil⟩⟩⟩⟩⟩⟩⟩⟩⟩⟩⟩⟩⟩⟩⟩⟩
theorem lw_p64 : lw_okq (⟨"RowPackerModel", "want", "(I)V"⟩, 34) := ⟨⟨by decide +kernel, by decide +kernel⟩, List.mem_of_getElem? (i := 1220) (by decide +kernel), List.mem_of_getElem? (i := 1477) (by decide +kernel), List.mem_of_getElem? (i := 1478) (by decide +kernel)⟩
theorem lw_p65 : lw_okq (⟨"RowPackerModel", "skip", "(I)V"⟩, 34) := ⟨⟨by decide +kernel, by decide +kernel⟩, List.mem_of_getElem? (i := 1220) (by decide +kernel), List.mem_of_getElem? (i := 1481) (by decide +kernel), List.mem_of_getElem? (i := 1482) (by decide +kernel)⟩
theorem lw_p66 : lw_okq (⟨"RowPackerModel", "skipText", "()V"⟩, 34) := ⟨⟨by decide +kernel, by decide +kernel⟩, List.mem_of_getElem? (i := 1220) (by decide +kernel), List.mem_of_getElem? (i := 1485) (by decide +kernel), List.mem_of_getElem? (i := 1486) (by decide +kernel)⟩
theorem lw_p67 : lw_okq (⟨"RowPackerModel", "four", "()J"⟩, 34) := ⟨⟨by decide +kernel, by decide +kernel⟩, List.mem_of_getElem? (i := 1220) (by decide +kernel), List.mem_of_getElem? (i := 1490) (by decide +kernel), List.mem_of_getElem? (i := 1491) (by decide +kernel)⟩
theorem lw_p68 : lw_okq (⟨"RowPackerModel", "putNumber", "(II)V"⟩, 34) := ⟨⟨by decide +kernel, by decide +kernel⟩, List.mem_of_getElem? (i := 1220) (by decide +kernel), List.mem_of_getElem? (i := 1498) (by decide +kernel), List.mem_of_getElem? (i := 1499) (by decide +kernel)⟩
theorem lw_p69 : lw_okq (⟨"RowPackerModel", "putBit", "(I)V"⟩, 34) := ⟨⟨by decide +kernel, by decide +kernel⟩, List.mem_of_getElem? (i := 1220) (by decide +kernel), List.mem_of_getElem? (i := 1502) (by decide +kernel), List.mem_of_getElem? (i := 1503) (by decide +kernel)⟩
theorem lw_p70 : lw_okq (⟨"RowPackerModel", "putBlocks", "()V"⟩, 34) := ⟨⟨by decide +kernel, by decide +kernel⟩, List.mem_of_getElem? (i := 1220) (by decide +kernel), List.mem_of_getElem? (i := 1506) (by decide +kernel), List.mem_of_getElem? (i := 1507) (by decide +kernel)⟩
theorem lw_p71 : lw_okq (⟨"RowPackerModel", "stretchOf", "(I)I"⟩, 34) := ⟨⟨by decide +kernel, by decide +kernel⟩, List.mem_of_getElem? (i := 1220) (by decide +kernel), List.mem_of_getElem? (i := 1510) (by decide +kernel), List.mem_of_getElem? (i := 1511) (by decide +kernel)⟩
theorem lw_p72 : lw_okq (⟨"RowPackerModel", "same", "(II)I"⟩, 34) := ⟨⟨by decide +kernel, by decide +kernel⟩, List.mem_of_getElem? (i := 1220) (by decide +kernel), List.mem_of_getElem? (i := 1514) (by decide +kernel), List.mem_of_getElem? (i := 1515) (by decide +kernel)⟩
theorem lw_p73 : lw_okq (⟨"RowPackerModel", "putBlock", "(IIZ)V"⟩, 34) := ⟨⟨by decide +kernel, by decide +kernel⟩, List.mem_of_getElem? (i := 1220) (by decide +kernel), List.mem_of_getElem? (i := 1518) (by decide +kernel), List.mem_of_getElem? (i := 1519) (by decide +kernel)⟩
theorem lw_p74 : lw_okq (⟨"RowPackerModel", "pieceBits", "()I"⟩, 34) := ⟨⟨by decide +kernel, by decide +kernel⟩, List.mem_of_getElem? (i := 1220) (by decide +kernel), List.mem_of_getElem? (i := 1522) (by decide +kernel), List.mem_of_getElem? (i := 1523) (by decide +kernel)⟩
theorem lw_p75 : lw_okq (⟨"RowPackerModel", "plan", "()I"⟩, 34) := ⟨⟨by decide +kernel, by decide +kernel⟩, List.mem_of_getElem? (i := 1220) (by decide +kernel), List.mem_of_getElem? (i := 1532) (by decide +kernel), List.mem_of_getElem? (i := 1533) (by decide +kernel)⟩
theorem lw_p76 : lw_okq (⟨"RowPackerModel", "weigh", "()V"⟩, 34) := ⟨⟨by decide +kernel, by decide +kernel⟩, List.mem_of_getElem? (i := 1220) (by decide +kernel), List.mem_of_getElem? (i := 1536) (by decide +kernel), List.mem_of_getElem? (i := 1537) (by decide +kernel)⟩
theorem lw_p77 : lw_okq (⟨"RowPackerModel", "byWeights", "(III)V"⟩, 34) := ⟨⟨by decide +kernel, by decide +kernel⟩, List.mem_of_getElem? (i := 1220) (by decide +kernel), List.mem_of_getElem? (i := 1540) (by decide +kernel), List.mem_of_getElem? (i := 1541) (by decide +kernel)⟩
theorem lw_p78 : lw_okq (⟨"RowPackerModel", "layRows", "(III)V"⟩, 34) := ⟨⟨by decide +kernel, by decide +kernel⟩, List.mem_of_getElem? (i := 1220) (by decide +kernel), List.mem_of_getElem? (i := 1547) (by decide +kernel), List.mem_of_getElem? (i := 1548) (by decide +kernel)⟩
theorem lw_p79 : lw_okq (⟨"RowPackerModel", "tellRow", "(I)V"⟩, 34) := ⟨⟨by decide +kernel, by decide +kernel⟩, List.mem_of_getElem? (i := 1220) (by decide +kernel), List.mem_of_getElem? (i := 1554) (by decide +kernel), List.mem_of_getElem? (i := 1555) (by decide +kernel)⟩
def lw_privs_5 : List (MethodName × Nat) := [(⟨"RowPackerModel", "want", "(I)V"⟩, 34), (⟨"RowPackerModel", "skip", "(I)V"⟩, 34), (⟨"RowPackerModel", "skipText", "()V"⟩, 34), (⟨"RowPackerModel", "four", "()J"⟩, 34), (⟨"RowPackerModel", "putNumber", "(II)V"⟩, 34), (⟨"RowPackerModel", "putBit", "(I)V"⟩, 34), (⟨"RowPackerModel", "putBlocks", "()V"⟩, 34), (⟨"RowPackerModel", "stretchOf", "(I)I"⟩, 34), (⟨"RowPackerModel", "same", "(II)I"⟩, 34), (⟨"RowPackerModel", "putBlock", "(IIZ)V"⟩, 34), (⟨"RowPackerModel", "pieceBits", "()I"⟩, 34), (⟨"RowPackerModel", "plan", "()I"⟩, 34), (⟨"RowPackerModel", "weigh", "()V"⟩, 34), (⟨"RowPackerModel", "byWeights", "(III)V"⟩, 34), (⟨"RowPackerModel", "layRows", "(III)V"⟩, 34), (⟨"RowPackerModel", "tellRow", "(I)V"⟩, 34)]
theorem lw_r5 : ∀ q ∈ lw_privs_5, lw_okq q := List.forall_mem_cons.mpr ⟨lw_p64, List.forall_mem_cons.mpr ⟨lw_p65, List.forall_mem_cons.mpr ⟨lw_p66, List.forall_mem_cons.mpr ⟨lw_p67, List.forall_mem_cons.mpr ⟨lw_p68, List.forall_mem_cons.mpr ⟨lw_p69, List.forall_mem_cons.mpr ⟨lw_p70, List.forall_mem_cons.mpr ⟨lw_p71, List.forall_mem_cons.mpr ⟨lw_p72, List.forall_mem_cons.mpr ⟨lw_p73, List.forall_mem_cons.mpr ⟨lw_p74, List.forall_mem_cons.mpr ⟨lw_p75, List.forall_mem_cons.mpr ⟨lw_p76, List.forall_mem_cons.mpr ⟨lw_p77, List.forall_mem_cons.mpr ⟨lw_p78, List.forall_mem_cons.mpr ⟨lw_p79, fun _ h => absurd h List.not_mem_nil⟩⟩⟩⟩⟩⟩⟩⟩⟩⟩⟩⟩⟩⟩⟩⟩
theorem lw_p80 : lw_okq (⟨"RowPackerModel", "run", "(II)I"⟩, 34) := ⟨⟨by decide +kernel, by decide +kernel⟩, List.mem_of_getElem? (i := 1220) (by decide +kernel), List.mem_of_getElem? (i := 1558) (by decide +kernel), List.mem_of_getElem? (i := 1559) (by decide +kernel)⟩
theorem lw_p81 : lw_okq (⟨"RowPackerModel", "tell", "(II)V"⟩, 34) := ⟨⟨by decide +kernel, by decide +kernel⟩, List.mem_of_getElem? (i := 1220) (by decide +kernel), List.mem_of_getElem? (i := 1562) (by decide +kernel), List.mem_of_getElem? (i := 1563) (by decide +kernel)⟩
theorem lw_p82 : lw_okq (⟨"RowPackerModel", "putPlain", "(II)V"⟩, 34) := ⟨⟨by decide +kernel, by decide +kernel⟩, List.mem_of_getElem? (i := 1220) (by decide +kernel), List.mem_of_getElem? (i := 1569) (by decide +kernel), List.mem_of_getElem? (i := 1570) (by decide +kernel)⟩
theorem lw_p83 : lw_okq (⟨"RowPackerModel", "pad", "()V"⟩, 34) := ⟨⟨by decide +kernel, by decide +kernel⟩, List.mem_of_getElem? (i := 1220) (by decide +kernel), List.mem_of_getElem? (i := 1573) (by decide +kernel), List.mem_of_getElem? (i := 1574) (by decide +kernel)⟩
theorem lw_p84 : lw_okq (⟨"RowPackerModel", "putPieces", "()V"⟩, 34) := ⟨⟨by decide +kernel, by decide +kernel⟩, List.mem_of_getElem? (i := 1220) (by decide +kernel), List.mem_of_getElem? (i := 1577) (by decide +kernel), List.mem_of_getElem? (i := 1578) (by decide +kernel)⟩
theorem lw_p85 : lw_okq (⟨"RowPackerModel", "makeCodes", "(II)V"⟩, 34) := ⟨⟨by decide +kernel, by decide +kernel⟩, List.mem_of_getElem? (i := 1220) (by decide +kernel), List.mem_of_getElem? (i := 1581) (by decide +kernel), List.mem_of_getElem? (i := 1582) (by decide +kernel)⟩
theorem lw_p86 : lw_okq (⟨"RowPackerModel", "putCode", "(I)V"⟩, 34) := ⟨⟨by decide +kernel, by decide +kernel⟩, List.mem_of_getElem? (i := 1220) (by decide +kernel), List.mem_of_getElem? (i := 1585) (by decide +kernel), List.mem_of_getElem? (i := 1586) (by decide +kernel)⟩
theorem lw_p87 : lw_okq (⟨"RowPackerModel", "putPlanned", "()V"⟩, 34) := ⟨⟨by decide +kernel, by decide +kernel⟩, List.mem_of_getElem? (i := 1220) (by decide +kernel), List.mem_of_getElem? (i := 1589) (by decide +kernel), List.mem_of_getElem? (i := 1590) (by decide +kernel)⟩
theorem lw_p88 : lw_okq (⟨"RowPackerModel", "putFour", "(J)V"⟩, 34) := ⟨⟨by decide +kernel, by decide +kernel⟩, List.mem_of_getElem? (i := 1220) (by decide +kernel), List.mem_of_getElem? (i := 1593) (by decide +kernel), List.mem_of_getElem? (i := 1594) (by decide +kernel)⟩
def lw_privs_6 : List (MethodName × Nat) := [(⟨"RowPackerModel", "run", "(II)I"⟩, 34), (⟨"RowPackerModel", "tell", "(II)V"⟩, 34), (⟨"RowPackerModel", "putPlain", "(II)V"⟩, 34), (⟨"RowPackerModel", "pad", "()V"⟩, 34), (⟨"RowPackerModel", "putPieces", "()V"⟩, 34), (⟨"RowPackerModel", "makeCodes", "(II)V"⟩, 34), (⟨"RowPackerModel", "putCode", "(I)V"⟩, 34), (⟨"RowPackerModel", "putPlanned", "()V"⟩, 34), (⟨"RowPackerModel", "putFour", "(J)V"⟩, 34)]
theorem lw_r6 : ∀ q ∈ lw_privs_6, lw_okq q := List.forall_mem_cons.mpr ⟨lw_p80, List.forall_mem_cons.mpr ⟨lw_p81, List.forall_mem_cons.mpr ⟨lw_p82, List.forall_mem_cons.mpr ⟨lw_p83, List.forall_mem_cons.mpr ⟨lw_p84, List.forall_mem_cons.mpr ⟨lw_p85, List.forall_mem_cons.mpr ⟨lw_p86, List.forall_mem_cons.mpr ⟨lw_p87, List.forall_mem_cons.mpr ⟨lw_p88, fun _ h => absurd h List.not_mem_nil⟩⟩⟩⟩⟩⟩⟩⟩⟩
def lw_privs : List (MethodName × Nat) := lw_privs_1 ++ (lw_privs_2 ++ (lw_privs_3 ++ (lw_privs_4 ++ (lw_privs_5 ++ (lw_privs_6)))))
def lw_tbl : List Cond := k2_sels lw_privs ++ tables_1
theorem lw_privs_ok : ∀ q ∈ lw_privs, lw_okq q := by
  show ∀ q ∈ lw_privs_1 ++ (lw_privs_2 ++ (lw_privs_3 ++ (lw_privs_4 ++ (lw_privs_5 ++ (lw_privs_6))))), lw_okq q
  exact List.forall_mem_append.mpr ⟨lw_r1, List.forall_mem_append.mpr ⟨lw_r2, List.forall_mem_append.mpr ⟨lw_r3, List.forall_mem_append.mpr ⟨lw_r4, List.forall_mem_append.mpr ⟨lw_r5, lw_r6⟩⟩⟩⟩⟩
end
section
/-- a method: name, bytes, locals, what it returns, its class's number, its instructions -/
abbrev xM : Type := MethodName × ByteArray × Nat × Option FieldType × Nat × List Instr
/-- the length of an instruction in the forms that this class has -/
def x_len (i : Instr) : Nat := match i with
  | .bipush _ => 2
  | .sipush _ => 3
  | .ldc _ => 2
  | .ldc2_w _ => 3
  | .iload _ => 2
  | .lload _ => 2
  | .aload _ => 2
  | .istore _ => 2
  | .lstore _ => 2
  | .astore _ => 2
  | .iinc _ _ => 3
  | .getfield _ => 3
  | .putfield _ => 3
  | .getstatic _ => 3
  | .new _ => 3
  | .newarray _ => 2
  | .invokevirtual _ => 3
  | .invokespecial _ => 3
  | .invokestatic _ => 3
  | .goto _ => 3
  | .if_icmp _ _ => 3
  | .ifCond _ _ => 3
  | .tableswitch _ _ _ _ => 76
  | _ => 1
def x_ck (b : ByteArray) : Nat → List Instr → Bool
  | _, [] => true
  | pc, i :: t => decide (decode b pc = .ok (i, x_len i)) && x_ck b (pc + x_len i) t
def x_pc : List Instr → Nat → Nat
  | _, 0 => 0
  | [], _ + 1 => 0
  | i :: t, k + 1 => x_len i + x_pc t k
theorem x_ck_at {b : ByteArray} : ∀ (cd : List Instr) (pc : Nat), x_ck b pc cd = true → ∀ (k : Nat) (i : Instr), cd[k]? = some i → decode b (pc + x_pc cd k) = .ok (i, x_len i) := by
  intro cd
  induction cd with
  | nil => intro pc _ k i h; simp at h
  | cons a t ih =>
    intro pc h k i hk
    rw [x_ck, Bool.and_eq_true, decide_eq_true_eq] at h
    cases k with
    | zero =>
      rw [List.getElem?_cons_zero] at hk
      cases hk
      exact h.1
    | succ k =>
      rw [List.getElem?_cons_succ] at hk
      have := ih _ h.2 k i hk
      rw [x_pc, ← Nat.add_assoc]
      exact this
theorem x_pcS : ∀ (cd : List Instr) (k : Nat) (i : Instr), cd[k]? = some i → x_pc cd (k + 1) = x_pc cd k + x_len i := by
  intro cd
  induction cd with
  | nil => intro k i h; simp at h
  | cons a t ih =>
    intro k i hk
    cases k with
    | zero =>
      rw [List.getElem?_cons_zero] at hk
      cases hk
      cases t <;> simp [x_pc]
    | succ k =>
      rw [List.getElem?_cons_succ] at hk
      rw [x_pc, ih k i hk, x_pc, Nat.add_assoc]
-- names and tables, written by wip/gen/gen.py
def x_cn (k : Nat) : String := match k with
  | 0 => "RowPacker"
  | 1 => "RowPacker$BitWriter"
  | 2 => "RowPacker$Finder"
  | 3 => "RowPacker$MadeCodes"
  | 4 => "RowPacker$Packer"
  | 5 => "RowPacker$ReadCode"
  | 6 => "RowPacker$Report"
  | 7 => "RowPacker$Row"
  | 8 => "RowPacker$Sums"
  | 9 => "RowPacker$Unpacker"
  | 10 => "RowPacker$Weigher"
  | 11 => "RowPacker$WriteCode"
  | 12 => "RowPackerModel"
  | 13 => "java/lang/IllegalStateException"
  | 14 => "java/lang/IllegalArgumentException"
  | 15 => "java/lang/IndexOutOfBoundsException"
  | 16 => "RowPackerLaw"
  | 17 => "java/util/Arrays"
  | _ => "java/lang/Math"
def x_T0 : u_T := fun k => match k with
  | 0 => ("RowPacker", "tape", "LRowPacker$Row;", true)
  | 1 => ("RowPacker", "result", "LRowPacker$Row;", true)
  | 2 => ("RowPacker", "report", "LRowPacker$Report;", true)
  | 3 => ("RowPacker", "sums", "LRowPacker$Sums;", true)
  | 4 => ("RowPacker", "packer", "LRowPacker$Packer;", true)
  | _ => ("RowPacker", "unpacker", "LRowPacker$Unpacker;", true)
def x_ty0 : Nat → FieldType := fun k => match k with
  | 0 => (.object "RowPacker$Row")
  | 1 => (.object "RowPacker$Row")
  | 2 => (.object "RowPacker$Report")
  | 3 => (.object "RowPacker$Sums")
  | 4 => (.object "RowPacker$Packer")
  | _ => (.object "RowPacker$Unpacker")
def x_T1 : u_T := fun k => match k with
  | 0 => ("RowPacker$BitWriter", "row", "LRowPacker$Row;", true)
  | 1 => ("RowPacker$BitWriter", "held", "I", false)
  | _ => ("RowPacker$BitWriter", "heldBits", "I", false)
def x_ty1 : Nat → FieldType := fun k => match k with
  | 0 => (.object "RowPacker$Row")
  | 1 => .int
  | _ => .int
def x_T2 : u_T := fun k => match k with
  | 0 => ("RowPacker$Finder", "length", "I", false)
  | 1 => ("RowPacker$Finder", "distance", "I", false)
  | 2 => ("RowPacker$Finder", "tape", "LRowPacker$Row;", true)
  | 3 => ("RowPacker$Finder", "latest", "[I", true)
  | 4 => ("RowPacker$Finder", "before", "[I", true)
  | 5 => ("RowPacker$Finder", "entered", "I", false)
  | _ => ("RowPacker$Finder", "found", "I", false)
def x_ty2 : Nat → FieldType := fun k => match k with
  | 0 => .int
  | 1 => .int
  | 2 => (.object "RowPacker$Row")
  | 3 => (.array .int)
  | 4 => (.array .int)
  | 5 => .int
  | _ => .int
def x_T3 : u_T := fun k => match k with
  | 0 => ("RowPacker$MadeCodes", "letters", "LRowPacker$WriteCode;", true)
  | 1 => ("RowPacker$MadeCodes", "distances", "LRowPacker$WriteCode;", true)
  | 2 => ("RowPacker$MadeCodes", "lengths", "LRowPacker$WriteCode;", true)
  | 3 => ("RowPacker$MadeCodes", "weigher", "LRowPacker$Weigher;", true)
  | 4 => ("RowPacker$MadeCodes", "row", "[I", true)
  | 5 => ("RowPacker$MadeCodes", "toldSymbols", "[I", true)
  | 6 => ("RowPacker$MadeCodes", "toldNumbers", "[I", true)
  | 7 => ("RowPacker$MadeCodes", "toldWeights", "[I", true)
  | 8 => ("RowPacker$MadeCodes", "told", "I", false)
  | 9 => ("RowPacker$MadeCodes", "manyLetters", "I", false)
  | 10 => ("RowPacker$MadeCodes", "manyDistances", "I", false)
  | _ => ("RowPacker$MadeCodes", "manyLengths", "I", false)
def x_ty3 : Nat → FieldType := fun k => match k with
  | 0 => (.object "RowPacker$WriteCode")
  | 1 => (.object "RowPacker$WriteCode")
  | 2 => (.object "RowPacker$WriteCode")
  | 3 => (.object "RowPacker$Weigher")
  | 4 => (.array .int)
  | 5 => (.array .int)
  | 6 => (.array .int)
  | 7 => (.array .int)
  | 8 => .int
  | 9 => .int
  | 10 => .int
  | _ => .int
def x_T4 : u_T := fun k => match k with
  | 0 => ("RowPacker$Packer", "tape", "LRowPacker$Row;", true)
  | 1 => ("RowPacker$Packer", "report", "LRowPacker$Report;", true)
  | 2 => ("RowPacker$Packer", "sums", "LRowPacker$Sums;", true)
  | 3 => ("RowPacker$Packer", "finder", "LRowPacker$Finder;", true)
  | 4 => ("RowPacker$Packer", "writer", "LRowPacker$BitWriter;", true)
  | 5 => ("RowPacker$Packer", "fixedLetters", "LRowPacker$WriteCode;", true)
  | 6 => ("RowPacker$Packer", "fixedDistances", "LRowPacker$WriteCode;", true)
  | 7 => ("RowPacker$Packer", "made", "LRowPacker$MadeCodes;", true)
  | 8 => ("RowPacker$Packer", "pieceLengths", "[I", true)
  | 9 => ("RowPacker$Packer", "pieceValues", "[I", true)
  | 10 => ("RowPacker$Packer", "letterWeights", "[I", true)
  | 11 => ("RowPacker$Packer", "distanceWeights", "[I", true)
  | 12 => ("RowPacker$Packer", "pieces", "I", false)
  | 13 => ("RowPacker$Packer", "bitsOfNumbers", "I", false)
  | 14 => ("RowPacker$Packer", "blockBegin", "I", false)
  | _ => ("RowPacker$Packer", "at", "I", false)
def x_ty4 : Nat → FieldType := fun k => match k with
  | 0 => (.object "RowPacker$Row")
  | 1 => (.object "RowPacker$Report")
  | 2 => (.object "RowPacker$Sums")
  | 3 => (.object "RowPacker$Finder")
  | 4 => (.object "RowPacker$BitWriter")
  | 5 => (.object "RowPacker$WriteCode")
  | 6 => (.object "RowPacker$WriteCode")
  | 7 => (.object "RowPacker$MadeCodes")
  | 8 => (.array .int)
  | 9 => (.array .int)
  | 10 => (.array .int)
  | 11 => (.array .int)
  | 12 => .int
  | 13 => .int
  | 14 => .int
  | _ => .int
def x_T5 : u_T := fun k => match k with
  | 0 => ("RowPacker$ReadCode", "counts", "[I", true)
  | 1 => ("RowPacker$ReadCode", "symbols", "[I", true)
  | 2 => ("RowPacker$ReadCode", "coded", "I", false)
  | _ => ("RowPacker$ReadCode", "starts", "[I", true)
def x_ty5 : Nat → FieldType := fun k => match k with
  | 0 => (.array .int)
  | 1 => (.array .int)
  | 2 => .int
  | _ => (.array .int)
def x_T6 : u_T := fun k => match k with
  | 0 => ("RowPacker$Report", "told", "[I", true)
  | 1 => ("RowPacker$Report", "fault", "I", false)
  | 2 => ("RowPacker$Report", "place", "I", false)
  | 3 => ("RowPacker$Report", "blocks", "I", false)
  | _ => ("RowPacker$Report", "stretches", "I", false)
def x_ty6 : Nat → FieldType := fun k => match k with
  | 0 => (.array .int)
  | 1 => .int
  | 2 => .int
  | 3 => .int
  | _ => .int
def x_T7 : u_T := fun k => match k with
  | 0 => ("RowPacker$Row", "cells", "[B", true)
  | _ => ("RowPacker$Row", "many", "I", false)
def x_ty7 : Nat → FieldType := fun k => match k with
  | 0 => (.array .byte)
  | _ => .int
def x_T8 : u_T := fun k => match k with
  | _ => ("RowPacker$Sums", "steps", "[I", true)
def x_ty8 : Nat → FieldType := fun k => match k with
  | _ => (.array .int)
def x_T9 : u_T := fun k => match k with
  | 0 => ("RowPacker$Unpacker", "tape", "LRowPacker$Row;", true)
  | 1 => ("RowPacker$Unpacker", "result", "LRowPacker$Row;", true)
  | 2 => ("RowPacker$Unpacker", "report", "LRowPacker$Report;", true)
  | 3 => ("RowPacker$Unpacker", "sums", "LRowPacker$Sums;", true)
  | 4 => ("RowPacker$Unpacker", "fixedLetters", "LRowPacker$ReadCode;", true)
  | 5 => ("RowPacker$Unpacker", "fixedDistances", "LRowPacker$ReadCode;", true)
  | 6 => ("RowPacker$Unpacker", "lengthsCode", "LRowPacker$ReadCode;", true)
  | 7 => ("RowPacker$Unpacker", "letters", "LRowPacker$ReadCode;", true)
  | 8 => ("RowPacker$Unpacker", "distances", "LRowPacker$ReadCode;", true)
  | 9 => ("RowPacker$Unpacker", "lengths", "[I", true)
  | 10 => ("RowPacker$Unpacker", "at", "I", false)
  | 11 => ("RowPacker$Unpacker", "endOfTape", "I", false)
  | _ => ("RowPacker$Unpacker", "memberBegin", "I", false)
def x_ty9 : Nat → FieldType := fun k => match k with
  | 0 => (.object "RowPacker$Row")
  | 1 => (.object "RowPacker$Row")
  | 2 => (.object "RowPacker$Report")
  | 3 => (.object "RowPacker$Sums")
  | 4 => (.object "RowPacker$ReadCode")
  | 5 => (.object "RowPacker$ReadCode")
  | 6 => (.object "RowPacker$ReadCode")
  | 7 => (.object "RowPacker$ReadCode")
  | 8 => (.object "RowPacker$ReadCode")
  | 9 => (.array .int)
  | 10 => .int
  | 11 => .int
  | _ => .int
def x_T10 : u_T := fun k => match k with
  | 0 => ("RowPacker$Weigher", "symbols", "[I", true)
  | 1 => ("RowPacker$Weigher", "symbolWeights", "[I", true)
  | 2 => ("RowPacker$Weigher", "many", "I", false)
  | 3 => ("RowPacker$Weigher", "row", "[I", false)
  | 4 => ("RowPacker$Weigher", "rowAfter", "[I", false)
  | _ => ("RowPacker$Weigher", "alone", "[Z", true)
def x_ty10 : Nat → FieldType := fun k => match k with
  | 0 => (.array .int)
  | 1 => (.array .int)
  | 2 => .int
  | 3 => (.array .int)
  | 4 => (.array .int)
  | _ => (.array .boolean)
def x_T11 : u_T := fun k => match k with
  | 0 => ("RowPacker$WriteCode", "lengths", "[I", true)
  | 1 => ("RowPacker$WriteCode", "words", "[I", true)
  | _ => ("RowPacker$WriteCode", "next", "[I", true)
def x_ty11 : Nat → FieldType := fun k => match k with
  | 0 => (.array .int)
  | 1 => (.array .int)
  | _ => (.array .int)
def x_T12 : u_T := fun k => match k with
  | 0 => ("RowPackerModel", "code", "I", false)
  | 1 => ("RowPackerModel", "tape", "[B", true)
  | 2 => ("RowPackerModel", "taped", "I", false)
  | 3 => ("RowPackerModel", "out", "[B", true)
  | 4 => ("RowPackerModel", "size", "I", false)
  | 5 => ("RowPackerModel", "fault", "I", false)
  | 6 => ("RowPackerModel", "place", "I", false)
  | 7 => ("RowPackerModel", "blocks", "I", false)
  | 8 => ("RowPackerModel", "stretches", "I", false)
  | 9 => ("RowPackerModel", "kinds", "[I", true)
  | 10 => ("RowPackerModel", "firsts", "[I", true)
  | 11 => ("RowPackerModel", "bitCounts", "[I", true)
  | 12 => ("RowPackerModel", "byteCounts", "[I", true)
  | 13 => ("RowPackerModel", "at", "I", false)
  | 14 => ("RowPackerModel", "memberBegin", "I", false)
  | 15 => ("RowPackerModel", "counts", "[I", true)
  | 16 => ("RowPackerModel", "ordered", "[I", true)
  | 17 => ("RowPackerModel", "lengths", "[I", true)
  | 18 => ("RowPackerModel", "row", "[I", true)
  | 19 => ("RowPackerModel", "pieceLength", "[I", true)
  | 20 => ("RowPackerModel", "pieceValue", "[I", true)
  | 21 => ("RowPackerModel", "pieces", "I", false)
  | 22 => ("RowPackerModel", "weights", "[J", true)
  | 23 => ("RowPackerModel", "codes", "[I", true)
  | 24 => ("RowPackerModel", "things", "[J", true)
  | 25 => ("RowPackerModel", "isSymbol", "[Z", true)
  | 26 => ("RowPackerModel", "thingCount", "[I", true)
  | 27 => ("RowPackerModel", "byWeight", "[I", true)
  | 28 => ("RowPackerModel", "told", "[I", true)
  | 29 => ("RowPackerModel", "toldNumber", "[I", true)
  | 30 => ("RowPackerModel", "toldCount", "I", false)
  | 31 => ("RowPackerModel", "lettersUsed", "I", false)
  | 32 => ("RowPackerModel", "distancesUsed", "I", false)
  | _ => ("RowPackerModel", "lengthsUsed", "I", false)
def x_ty12 : Nat → FieldType := fun k => match k with
  | 0 => .int
  | 1 => (.array .byte)
  | 2 => .int
  | 3 => (.array .byte)
  | 4 => .int
  | 5 => .int
  | 6 => .int
  | 7 => .int
  | 8 => .int
  | 9 => (.array .int)
  | 10 => (.array .int)
  | 11 => (.array .int)
  | 12 => (.array .int)
  | 13 => .int
  | 14 => .int
  | 15 => (.array .int)
  | 16 => (.array .int)
  | 17 => (.array .int)
  | 18 => (.array .int)
  | 19 => (.array .int)
  | 20 => (.array .int)
  | 21 => .int
  | 22 => (.array .long)
  | 23 => (.array .int)
  | 24 => (.array .long)
  | 25 => (.array .boolean)
  | 26 => (.array .int)
  | 27 => (.array .int)
  | 28 => (.array .int)
  | 29 => (.array .int)
  | 30 => .int
  | 31 => .int
  | 32 => .int
  | _ => .int
def x_T13 : u_T := fun k => match k with
  | _ => ("", "", "", false)
def x_ty13 : Nat → FieldType := fun k => match k with
  | _ => .int
def x_T14 : u_T := fun k => match k with
  | _ => ("", "", "", false)
def x_ty14 : Nat → FieldType := fun k => match k with
  | _ => .int
def x_T15 : u_T := fun k => match k with
  | _ => ("", "", "", false)
def x_ty15 : Nat → FieldType := fun k => match k with
  | _ => .int
def x_cl : List vw_C := [("RowPacker", x_T0, 6), ("RowPacker$BitWriter", x_T1, 3), ("RowPacker$Finder", x_T2, 7), ("RowPacker$MadeCodes", x_T3, 12), ("RowPacker$Packer", x_T4, 16), ("RowPacker$ReadCode", x_T5, 4), ("RowPacker$Report", x_T6, 5), ("RowPacker$Row", x_T7, 2), ("RowPacker$Sums", x_T8, 1), ("RowPacker$Unpacker", x_T9, 13), ("RowPacker$Weigher", x_T10, 6), ("RowPacker$WriteCode", x_T11, 3), ("RowPackerModel", x_T12, 34), ("java/lang/IllegalStateException", x_T13, 0), ("java/lang/IllegalArgumentException", x_T14, 0), ("java/lang/IndexOutOfBoundsException", x_T15, 0)]
def x_tys (c : Nat) : Nat → FieldType := match c with
  | 0 => x_ty0
  | 1 => x_ty1
  | 2 => x_ty2
  | 3 => x_ty3
  | 4 => x_ty4
  | 5 => x_ty5
  | 6 => x_ty6
  | 7 => x_ty7
  | 8 => x_ty8
  | 9 => x_ty9
  | 10 => x_ty10
  | 11 => x_ty11
  | 12 => x_ty12
  | _ => x_ty13
def x_fl (own : Nat) : List (Nat × (Nat × Nat)) := match own with
  | 0 => [(73, (7, 0)), (53, (7, 1)), (109, (6, 0)), (87, (6, 1)), (90, (6, 2)), (106, (6, 3)), (113, (6, 4)), (15, (0, 0)), (20, (0, 1)), (26, (0, 2)), (33, (0, 3)), (42, (0, 4)), (49, (0, 5))]
  | 1 => [(13, (7, 1)), (39, (11, 0)), (33, (11, 1)), (7, (1, 0)), (19, (1, 1)), (22, (1, 2))]
  | 2 => [(62, (7, 0)), (43, (7, 1)), (36, (2, 0)), (74, (2, 1)), (19, (2, 2)), (11, (2, 3)), (16, (2, 4)), (29, (2, 5)), (33, (2, 6))]
  | 3 => [(46, (11, 0)), (14, (3, 0)), (20, (3, 1)), (23, (3, 2)), (29, (3, 3)), (33, (3, 4)), (37, (3, 5)), (40, (3, 6)), (43, (3, 7)), (87, (3, 8)), (56, (3, 9)), (66, (3, 10)), (81, (3, 11))]
  | 4 => [(114, (7, 1)), (185, (6, 4)), (71, (11, 0)), (202, (3, 0)), (205, (3, 1)), (158, (2, 0)), (161, (2, 1)), (43, (4, 0)), (47, (4, 1)), (51, (4, 2)), (60, (4, 3)), (67, (4, 4)), (14, (4, 5)), (20, (4, 6)), (26, (4, 7)), (30, (4, 8)), (34, (4, 9)), (37, (4, 10)), (40, (4, 11)), (107, (4, 12)), (149, (4, 13)), (146, (4, 14)), (99, (4, 15))]
  | 5 => [(9, (5, 0)), (15, (5, 1)), (27, (5, 2)), (18, (5, 3))]
  | 6 => [(11, (6, 0)), (19, (6, 1)), (15, (6, 2)), (22, (6, 3)), (25, (6, 4))]
  | 7 => [(7, (7, 0)), (13, (7, 1))]
  | 8 => [(7, (8, 0))]
  | 9 => [(144, (7, 0)), (68, (7, 1)), (95, (6, 1)), (102, (6, 2)), (229, (6, 4)), (151, (5, 0)), (154, (5, 1)), (148, (5, 2)), (34, (9, 0)), (38, (9, 1)), (41, (9, 2)), (45, (9, 3)), (12, (9, 4)), (18, (9, 5)), (21, (9, 6)), (24, (9, 7)), (27, (9, 8)), (30, (9, 9)), (74, (9, 10)), (77, (9, 11)), (81, (9, 12))]
  | 10 => [(9, (10, 0)), (15, (10, 1)), (38, (10, 2)), (18, (10, 3)), (21, (10, 4)), (24, (10, 5))]
  | 11 => [(15, (11, 0)), (18, (11, 1)), (9, (11, 2))]
  | 12 => [(79, (12, 0)), (8, (12, 1)), (82, (12, 2)), (15, (12, 3)), (146, (12, 4)), (115, (12, 5)), (18, (12, 6)), (171, (12, 7)), (164, (12, 8)), (22, (12, 9)), (26, (12, 10)), (29, (12, 11)), (32, (12, 12)), (118, (12, 13)), (152, (12, 14)), (35, (12, 15)), (38, (12, 16)), (41, (12, 17)), (44, (12, 18)), (47, (12, 19)), (50, (12, 20)), (242, (12, 21)), (53, (12, 22)), (57, (12, 23)), (60, (12, 24)), (63, (12, 25)), (67, (12, 26)), (70, (12, 27)), (73, (12, 28)), (76, (12, 29)), (251, (12, 30)), (270, (12, 31)), (273, (12, 32)), (279, (12, 33))]
  | _ => []
def x_kc (own : Nat) : List (Nat × Int32) := match own with
  | 0 => [(11, 32768), (19, 65536)]
  | 2 => [(15, 32768), (66, -1640531535)]
  | 4 => [(103, 32768), (223, 65535)]
  | 5 => [(31, 32768)]
  | 8 => [(13, -306674912), (20, 65521)]
  | 9 => [(80, 32768), (157, 262144), (175, 65535), (176, 65536)]
  | 12 => [(7, 32768), (14, 65536), (170, 65535)]
  | _ => []
def x_kl (own : Nat) : List (Nat × Int64) := match own with
  | 8 => [(21, 65536), (23, 4294967295)]
  | 9 => [(132, 65535)]
  | 12 => [(89, 65521), (91, 65536), (93, 4294967295), (95, 255), (97, 2), (99, 3988292384), (196, 256), (210, 65535)]
  | _ => []
def x_nc (own : Nat) : List (Nat × Nat) := match own with
  | 0 => [(9, 7), (23, 6), (30, 8), (37, 4), (46, 9), (57, 13), (63, 14), (70, 15)]
  | 3 => [(9, 11), (26, 10)]
  | 4 => [(9, 11), (23, 3), (55, 2), (64, 1)]
  | 9 => [(9, 5)]
  | 16 => [(8, 0), (13, 13), (19, 14), (28, 15), (52, 12)]
  | 17 => [(43, 14)]
  | _ => []
end
section
def mRP_init : xM := (⟨"RowPacker", "<init>", "()V"⟩, prog_1_method_1_code, 1, none, 0,
  [.aload_n 0, .invokespecial 3, .aload_n 0, .new 9, .dup, .ldc 11, .invokespecial 12, .putfield 15, .aload_n 0, .new 9, .dup, .ldc 19, .invokespecial 12, .putfield 20, .aload_n 0, .new 23, .dup, .invokespecial 25, .putfield 26, .aload_n 0, .new 30, .dup, .invokespecial 32, .putfield 33, .aload_n 0, .new 37, .dup, .aload_n 0, .getfield 15, .aload_n 0, .getfield 20, .aload_n 0, .getfield 26, .aload_n 0, .getfield 33, .invokespecial 39, .putfield 42, .aload_n 0, .new 46, .dup, .aload_n 0, .getfield 15, .aload_n 0, .getfield 20, .aload_n 0, .getfield 26, .aload_n 0, .getfield 33, .invokespecial 48, .putfield 49, .return_])
def mRO_init : xM := (⟨"RowPacker$Row", "<init>", "(I)V"⟩, prog_8_method_1_code, 2, none, 7,
  [.aload_n 0, .invokespecial 1, .aload_n 0, .iload_n 1, .newarray .byte, .putfield 7, .return_])
def mRE_init : xM := (⟨"RowPacker$Report", "<init>", "()V"⟩, prog_7_method_1_code, 1, none, 6,
  [.aload_n 0, .invokespecial 3, .aload_n 0, .sipush 256, .newarray .int, .putfield 11, .aload_n 0, .iconst (-1), .putfield 15, .return_])
def mSU_init : xM := (⟨"RowPacker$Sums", "<init>", "()V"⟩, prog_9_method_1_code, 4, none, 8,
  [.aload_n 0, .invokespecial 1, .aload_n 0, .sipush 256, .newarray .int, .putfield 7, .iconst 0, .istore_n 1, .iload_n 1, .sipush 256, .if_icmp .ge 52, .iload_n 1, .istore_n 2, .iconst 0, .istore_n 3, .iload_n 3, .bipush 8, .if_icmp .ge 29, .iload_n 2, .iconst 1, .iand, .iconst 1, .if_icmp .ne 12, .iload_n 2, .iconst 1, .iushr, .ldc 13, .ixor, .goto 6, .iload_n 2, .iconst 1, .iushr, .istore_n 2, .iinc 3 1, .goto (-29), .aload_n 0, .getfield 7, .iload_n 1, .iload_n 2, .iastore, .iinc 1 1, .goto (-53), .return_])
def mPK_init : xM := (⟨"RowPacker$Packer", "<init>", "(LRowPacker$Row;LRowPacker$Row;LRowPacker$Report;LRowPacker$Sums;)V"⟩, prog_5_method_1_code, 6, none, 4,
  [.aload_n 0, .invokespecial 3, .aload_n 0, .new 9, .dup, .sipush 288, .invokespecial 11, .putfield 14, .aload_n 0, .new 9, .dup, .bipush 32, .invokespecial 11, .putfield 20, .aload_n 0, .new 23, .dup, .invokespecial 25, .putfield 26, .aload_n 0, .sipush 1024, .newarray .int, .putfield 30, .aload_n 0, .sipush 1024, .newarray .int, .putfield 34, .aload_n 0, .sipush 286, .newarray .int, .putfield 37, .aload_n 0, .bipush 30, .newarray .int, .putfield 40, .aload_n 0, .aload_n 1, .putfield 43, .aload_n 0, .aload_n 3, .putfield 47, .aload_n 0, .aload 4, .putfield 51, .aload_n 0, .new 55, .dup, .aload_n 1, .invokespecial 57, .putfield 60, .aload_n 0, .new 64, .dup, .aload_n 2, .invokespecial 66, .putfield 67, .iconst 0, .istore 5, .iload 5, .sipush 288, .if_icmp .ge 24, .aload_n 0, .getfield 14, .getfield 71, .iload 5, .iload 5, .invokestatic 74, .iastore, .iinc 5 1, .goto (-26), .aload_n 0, .getfield 20, .getfield 71, .iconst 5, .invokestatic 78, .aload_n 0, .getfield 14, .invokevirtual 84, .aload_n 0, .getfield 20, .invokevirtual 84, .return_])
def mWC_init : xM := (⟨"RowPacker$WriteCode", "<init>", "(I)V"⟩, prog_12_method_1_code, 2, none, 11,
  [.aload_n 0, .invokespecial 3, .aload_n 0, .bipush 17, .newarray .int, .putfield 9, .aload_n 0, .iload_n 1, .newarray .int, .putfield 15, .aload_n 0, .iload_n 1, .newarray .int, .putfield 18, .return_])
def mMC_init : xM := (⟨"RowPacker$MadeCodes", "<init>", "()V"⟩, prog_4_method_1_code, 1, none, 3,
  [.aload_n 0, .invokespecial 3, .aload_n 0, .new 9, .dup, .sipush 286, .invokespecial 11, .putfield 14, .aload_n 0, .new 9, .dup, .bipush 30, .invokespecial 11, .putfield 20, .aload_n 0, .new 9, .dup, .bipush 19, .invokespecial 11, .putfield 23, .aload_n 0, .new 26, .dup, .invokespecial 28, .putfield 29, .aload_n 0, .sipush 316, .newarray .int, .putfield 33, .aload_n 0, .sipush 316, .newarray .int, .putfield 37, .aload_n 0, .sipush 316, .newarray .int, .putfield 40, .aload_n 0, .bipush 19, .newarray .int, .putfield 43, .return_])
def mWE_init : xM := (⟨"RowPacker$Weigher", "<init>", "()V"⟩, prog_11_method_1_code, 1, none, 10,
  [.aload_n 0, .invokespecial 3, .aload_n 0, .sipush 286, .newarray .int, .putfield 9, .aload_n 0, .sipush 286, .newarray .int, .putfield 15, .aload_n 0, .sipush 572, .newarray .int, .putfield 18, .aload_n 0, .sipush 572, .newarray .int, .putfield 21, .aload_n 0, .sipush 8580, .newarray .boolean, .putfield 24, .return_])
def mFI_init : xM := (⟨"RowPacker$Finder", "<init>", "(LRowPacker$Row;)V"⟩, prog_3_method_1_code, 2, none, 2,
  [.aload_n 0, .invokespecial 5, .aload_n 0, .sipush 4096, .newarray .int, .putfield 11, .aload_n 0, .ldc 15, .newarray .int, .putfield 16, .aload_n 0, .aload_n 1, .putfield 19, .return_])
def mBW_init : xM := (⟨"RowPacker$BitWriter", "<init>", "(LRowPacker$Row;)V"⟩, prog_2_method_1_code, 2, none, 1,
  [.aload_n 0, .invokespecial 1, .aload_n 0, .aload_n 1, .putfield 7, .return_])
def mRP_fixedLength : xM := (⟨"RowPacker", "fixedLength", "(I)I"⟩, prog_1_method_24_code, 1, (some .int), 0,
  [.iload_n 0, .sipush 144, .if_icmp .ge 6, .bipush 8, .ireturn, .iload_n 0, .sipush 256, .if_icmp .ge 6, .bipush 9, .ireturn, .iload_n 0, .sipush 280, .if_icmp .ge 8, .bipush 7, .goto 5, .bipush 8, .ireturn])
def mAR_fill : xM := (⟨"java/util/Arrays", "fill", "([II)V"⟩, prog_31_method_103_code, 4, none, 17,
  [.iconst 0, .istore_n 2, .aload_n 0, .arraylength, .istore_n 3, .iload_n 2, .iload_n 3, .if_icmp .ge 13, .aload_n 0, .iload_n 2, .iload_n 1, .iastore, .iinc 2 1, .goto (-12), .return_])
def mWC_makeWords : xM := (⟨"RowPacker$WriteCode", "makeWords", "()V"⟩, prog_12_method_2_code, 2, none, 11,
  [.aload_n 0, .getfield 9, .iconst 0, .invokestatic 21, .iconst 0, .istore_n 1, .iload_n 1, .aload_n 0, .getfield 15, .arraylength, .if_icmp .ge 35, .aload_n 0, .getfield 15, .iload_n 1, .iaload, .ifCond .le 20, .aload_n 0, .getfield 9, .aload_n 0, .getfield 15, .iload_n 1, .iaload, .iconst 1, .iadd, .dup2, .iaload, .iconst 1, .iadd, .iastore, .iinc 1 1, .goto (-38), .iconst 1, .istore_n 1, .iload_n 1, .bipush 15, .if_icmp .gt 32, .aload_n 0, .getfield 9, .iload_n 1, .iconst 2, .aload_n 0, .getfield 9, .iload_n 1, .iconst 1, .isub, .iaload, .aload_n 0, .getfield 9, .iload_n 1, .iaload, .iadd, .imul, .iastore, .iinc 1 1, .goto (-32), .iconst 0, .istore_n 1, .iload_n 1, .aload_n 0, .getfield 15, .arraylength, .if_icmp .ge 50, .aload_n 0, .getfield 18, .iload_n 1, .aload_n 0, .getfield 9, .aload_n 0, .getfield 15, .iload_n 1, .iaload, .iaload, .aload_n 0, .getfield 15, .iload_n 1, .iaload, .invokestatic 27, .iastore, .aload_n 0, .getfield 9, .aload_n 0, .getfield 15, .iload_n 1, .iaload, .dup2, .iaload, .iconst 1, .iadd, .iastore, .iinc 1 1, .goto (-53), .return_])
def mWC_turnedRound : xM := (⟨"RowPacker$WriteCode", "turnedRound", "(II)I"⟩, prog_12_method_3_code, 4, (some .int), 11,
  [.iconst 0, .istore_n 2, .iconst 0, .istore_n 3, .iload_n 3, .iload_n 1, .if_icmp .ge 19, .iconst 2, .iload_n 2, .imul, .iload_n 0, .iload_n 3, .ishr, .iconst 1, .iand, .iadd, .istore_n 2, .iinc 3 1, .goto (-18), .iload_n 2, .ireturn])
def mUN_init : xM := (⟨"RowPacker$Unpacker", "<init>", "(LRowPacker$Row;LRowPacker$Row;LRowPacker$Report;LRowPacker$Sums;)V"⟩, prog_10_method_1_code, 7, none, 9,
  [.aload_n 0, .invokespecial 3, .aload_n 0, .new 9, .dup, .invokespecial 11, .putfield 12, .aload_n 0, .new 9, .dup, .invokespecial 11, .putfield 18, .aload_n 0, .new 9, .dup, .invokespecial 11, .putfield 21, .aload_n 0, .new 9, .dup, .invokespecial 11, .putfield 24, .aload_n 0, .new 9, .dup, .invokespecial 11, .putfield 27, .aload_n 0, .sipush 316, .newarray .int, .putfield 30, .aload_n 0, .aload_n 1, .putfield 34, .aload_n 0, .aload_n 2, .putfield 38, .aload_n 0, .aload_n 3, .putfield 41, .aload_n 0, .aload 4, .putfield 45, .sipush 288, .newarray .int, .astore 5, .iconst 0, .istore 6, .iload 6, .sipush 288, .if_icmp .ge 19, .aload 5, .iload 6, .iload 6, .invokestatic 49, .iastore, .iinc 6 1, .goto (-21), .aload_n 0, .getfield 12, .aload 5, .iconst 0, .sipush 288, .invokevirtual 53, .aload 5, .iconst 5, .invokestatic 57, .aload_n 0, .getfield 18, .aload 5, .iconst 0, .bipush 32, .invokevirtual 53, .return_])
def mRC_init : xM := (⟨"RowPacker$ReadCode", "<init>", "()V"⟩, prog_6_method_1_code, 1, none, 5,
  [.aload_n 0, .invokespecial 3, .aload_n 0, .bipush 16, .newarray .int, .putfield 9, .aload_n 0, .sipush 288, .newarray .int, .putfield 15, .aload_n 0, .bipush 17, .newarray .int, .putfield 18, .return_])
def mRC_make : xM := (⟨"RowPacker$ReadCode", "make", "([III)V"⟩, prog_6_method_2_code, 6, none, 5,
  [.aload_n 0, .getfield 9, .iconst 0, .invokestatic 21, .iconst 0, .istore 4, .iload 4, .iload_n 3, .if_icmp .ge 24, .aload_n 0, .getfield 9, .aload_n 1, .iload_n 2, .iload 4, .iadd, .iaload, .dup2, .iaload, .iconst 1, .iadd, .iastore, .iinc 4 1, .goto (-24), .aload_n 0, .iload_n 3, .aload_n 0, .getfield 9, .iconst 0, .iaload, .isub, .putfield 27, .aload_n 0, .getfield 9, .iconst 0, .iconst 0, .iastore, .aload_n 0, .getfield 18, .iconst 1, .iconst 0, .iastore, .iconst 1, .istore 4, .iload 4, .bipush 15, .if_icmp .gt 33, .aload_n 0, .getfield 18, .iload 4, .iconst 1, .iadd, .aload_n 0, .getfield 18, .iload 4, .iaload, .aload_n 0, .getfield 9, .iload 4, .iaload, .iadd, .iastore, .iinc 4 1, .goto (-34), .iconst 0, .istore 4, .iload 4, .iload_n 3, .if_icmp .ge 47, .aload_n 1, .iload_n 2, .iload 4, .iadd, .iaload, .istore 5, .iload 5, .ifCond .le 28, .aload_n 0, .getfield 15, .aload_n 0, .getfield 18, .iload 5, .iaload, .iload 4, .iastore, .aload_n 0, .getfield 18, .iload 5, .dup2, .iaload, .iconst 1, .iadd, .iastore, .iinc 4 1, .goto (-47), .return_])
def mRP_fault : xM := (⟨"RowPacker", "fault", "()I"⟩, prog_1_method_8_code, 1, (some .int), 0,
  [.aload_n 0, .getfield 26, .getfield 87, .ireturn])
def mRP_place : xM := (⟨"RowPacker", "place", "()I"⟩, prog_1_method_9_code, 1, (some .int), 0,
  [.aload_n 0, .getfield 26, .getfield 90, .ireturn])
def mRP_size : xM := (⟨"RowPacker", "size", "()I"⟩, prog_1_method_10_code, 1, (some .int), 0,
  [.aload_n 0, .getfield 20, .getfield 53, .ireturn])
def mRP_blocks : xM := (⟨"RowPacker", "blocks", "()I"⟩, prog_1_method_14_code, 1, (some .int), 0,
  [.aload_n 0, .getfield 26, .getfield 106, .ireturn])
def mRP_stretches : xM := (⟨"RowPacker", "stretches", "()I"⟩, prog_1_method_16_code, 1, (some .int), 0,
  [.aload_n 0, .getfield 26, .getfield 113, .ireturn])
def mLA_feed : xM := (⟨"RowPackerLaw", "feed", "(LRowPacker;IIIII[J)I"⟩, method_3_code, 8, (some .int), 16,
  [.aload 6, .iconst 0, .aload_n 0, .iload_n 1, .iload_n 2, .iload_n 3, .iload 4, .iload 5, .invokevirtual 7, .i2l, .lastore, .goto 7, .astore 7, .iconst 1, .ireturn, .iconst 0, .ireturn])
def mRP_feed : xM := (⟨"RowPacker", "feed", "(IIIII)I"⟩, prog_1_method_2_code, 6, (some .int), 0,
  [.aload_n 0, .getfield 15, .getfield 53, .sipush 32748, .if_icmp .le 11, .new 57, .dup, .invokespecial 59, .athrow, .aload_n 0, .getfield 15, .iload_n 1, .invokevirtual 60, .aload_n 0, .getfield 15, .iload_n 2, .invokevirtual 60, .aload_n 0, .getfield 15, .iload_n 3, .invokevirtual 60, .aload_n 0, .getfield 15, .iload 4, .invokevirtual 60, .aload_n 0, .getfield 15, .iload 5, .invokevirtual 60, .aload_n 0, .getfield 15, .getfield 53, .ireturn])
def mRO_addFour : xM := (⟨"RowPacker$Row", "addFour", "(I)V"⟩, prog_8_method_4_code, 3, none, 7,
  [.bipush 24, .istore_n 2, .iload_n 2, .ifCond .lt 16, .aload_n 0, .iload_n 1, .iload_n 2, .iushr, .invokevirtual 17, .iinc 2 (-8), .goto (-14), .return_])
def mRO_add : xM := (⟨"RowPacker$Row", "add", "(I)V"⟩, prog_8_method_3_code, 2, none, 7,
  [.aload_n 0, .getfield 13, .aload_n 0, .getfield 7, .arraylength, .if_icmp .ge 24, .aload_n 0, .getfield 7, .aload_n 0, .getfield 13, .iload_n 1, .i2b, .bastore, .aload_n 0, .dup, .getfield 13, .iconst 1, .iadd, .putfield 13, .return_])
def mLA_end : xM := (⟨"RowPackerLaw", "end", "(LRowPacker;I)I"⟩, method_4_code, 3, (some .int), 16,
  [.aload_n 0, .iload_n 1, .invokevirtual 15, .goto 6, .astore_n 2, .iconst 1, .ireturn, .iconst 0, .ireturn])
def mRP_end : xM := (⟨"RowPacker", "end", "(I)V"⟩, prog_1_method_3_code, 2, none, 0,
  [.iload_n 1, .ifCond .lt 14, .iload_n 1, .aload_n 0, .getfield 15, .getfield 53, .if_icmp .le 11, .new 63, .dup, .invokespecial 65, .athrow, .aload_n 0, .getfield 15, .iload_n 1, .putfield 53, .return_])
def mLA_again : xM := (⟨"RowPackerLaw", "again", "(LRowPacker;II[J)I"⟩, method_5_code, 5, (some .int), 16,
  [.aload_n 3, .iconst 0, .aload_n 0, .iload_n 1, .iload_n 2, .invokevirtual 21, .i2l, .lastore, .goto 11, .astore 4, .iconst 1, .ireturn, .astore 4, .iconst 2, .ireturn, .iconst 0, .ireturn])
def mRP_again : xM := (⟨"RowPacker", "again", "(II)I"⟩, prog_1_method_4_code, 3, (some .int), 0,
  [.iload_n 2, .ifCond .lt 19, .iload_n 1, .iconst 1, .if_icmp .lt 14, .iload_n 1, .aload_n 0, .getfield 15, .getfield 53, .if_icmp .le 11, .new 63, .dup, .invokespecial 65, .athrow, .iload_n 2, .ldc 11, .aload_n 0, .getfield 15, .getfield 53, .isub, .if_icmp .le 11, .new 57, .dup, .invokespecial 59, .athrow, .aload_n 0, .getfield 15, .iload_n 1, .iload_n 2, .invokevirtual 66, .aload_n 0, .getfield 15, .getfield 53, .ireturn])
def mRO_repeat : xM := (⟨"RowPacker$Row", "repeat", "(II)V"⟩, prog_8_method_5_code, 5, none, 7,
  [.aload_n 0, .getfield 13, .iload_n 2, .iadd, .istore_n 3, .aload_n 0, .getfield 13, .istore 4, .iload 4, .iload_n 3, .if_icmp .ge 25, .aload_n 0, .getfield 7, .iload 4, .aload_n 0, .getfield 7, .iload 4, .iload_n 1, .isub, .baload, .bastore, .iinc 4 1, .goto (-25), .aload_n 0, .iload_n 3, .putfield 13, .return_])
def mLA_change : xM := (⟨"RowPackerLaw", "change", "(LRowPacker;II[J)I"⟩, method_6_code, 5, (some .int), 16,
  [.aload_n 3, .iconst 0, .aload_n 0, .iload_n 1, .iload_n 2, .invokevirtual 25, .i2l, .lastore, .goto 11, .astore 4, .iconst 1, .ireturn, .astore 4, .iconst 2, .ireturn, .iconst 0, .ireturn])
def mRP_change : xM := (⟨"RowPacker", "change", "(II)I"⟩, prog_1_method_5_code, 3, (some .int), 0,
  [.iload_n 1, .ifCond .lt 14, .iload_n 1, .aload_n 0, .getfield 15, .getfield 53, .if_icmp .lt 11, .new 70, .dup, .invokespecial 72, .athrow, .iload_n 2, .ifCond .lt 10, .iload_n 2, .sipush 255, .if_icmp .le 11, .new 63, .dup, .invokespecial 65, .athrow, .aload_n 0, .getfield 15, .getfield 73, .iload_n 1, .aload_n 0, .getfield 15, .getfield 73, .iload_n 1, .baload, .iload_n 2, .ixor, .i2b, .bastore, .aload_n 0, .getfield 15, .iload_n 1, .invokevirtual 77, .ireturn])
def mRO_byteAt : xM := (⟨"RowPacker$Row", "byteAt", "(I)I"⟩, prog_8_method_2_code, 2, (some .int), 7,
  [.aload_n 0, .getfield 7, .iload_n 1, .baload, .sipush 255, .iand, .ireturn])
def mLA_pack : xM := (⟨"RowPackerLaw", "pack", "(LRowPacker;I[J)I"⟩, method_7_code, 4, (some .int), 16,
  [.aload_n 2, .iconst 0, .aload_n 0, .iload_n 1, .invokevirtual 30, .i2l, .lastore, .goto 6, .astore_n 3, .iconst 1, .ireturn, .iconst 0, .ireturn])
def mRP_pack : xM := (⟨"RowPacker", "pack", "(I)I"⟩, prog_1_method_6_code, 2, (some .int), 0,
  [.iload_n 1, .ifCond .lt 8, .iload_n 1, .iconst 2, .if_icmp .le 11, .new 63, .dup, .invokespecial 65, .athrow, .aload_n 0, .getfield 42, .iload_n 1, .invokevirtual 81, .aload_n 0, .getfield 20, .getfield 53, .ireturn])
def mPK_packTape : xM := (⟨"RowPacker$Packer", "packTape", "(I)V"⟩, prog_5_method_2_code, 4, none, 4,
  [.aload_n 0, .getfield 47, .invokevirtual 87, .aload_n 0, .getfield 67, .invokevirtual 92, .aload_n 0, .getfield 60, .invokevirtual 95, .aload_n 0, .iload_n 1, .invokevirtual 96, .aload_n 0, .iconst 0, .putfield 99, .iconst 0, .istore_n 2, .iconst 0, .istore_n 3, .iload_n 2, .ifCond .ne 66, .iload_n 3, .ldc 103, .if_icmp .gt 60, .aload_n 0, .invokevirtual 104, .aload_n 0, .getfield 107, .ifCond .le 18, .aload_n 0, .getfield 26, .aload_n 0, .getfield 37, .aload_n 0, .getfield 40, .invokevirtual 110, .aload_n 0, .getfield 99, .aload_n 0, .getfield 43, .getfield 114, .if_icmp .lt 7, .iconst 1, .goto 4, .iconst 0, .istore_n 2, .aload_n 0, .iload_n 2, .invokevirtual 119, .iinc 3 1, .goto (-64), .aload_n 0, .getfield 67, .invokevirtual 123, .aload_n 0, .iload_n 1, .invokevirtual 126, .return_])
def mRE_clear : xM := (⟨"RowPacker$Report", "clear", "()V"⟩, prog_7_method_2_code, 1, none, 6,
  [.aload_n 0, .iconst 0, .putfield 19, .aload_n 0, .iconst (-1), .putfield 15, .aload_n 0, .iconst 0, .putfield 22, .aload_n 0, .iconst 0, .putfield 25, .return_])
def mBW_restart : xM := (⟨"RowPacker$BitWriter", "restart", "()V"⟩, prog_2_method_2_code, 1, none, 1,
  [.aload_n 0, .getfield 7, .iconst 0, .putfield 13, .aload_n 0, .iconst 0, .putfield 19, .aload_n 0, .iconst 0, .putfield 22, .return_])
def mFI_restart : xM := (⟨"RowPacker$Finder", "restart", "()V"⟩, prog_3_method_2_code, 1, none, 2,
  [.aload_n 0, .getfield 11, .iconst (-1), .invokestatic 23, .aload_n 0, .iconst 0, .putfield 29, .aload_n 0, .iconst (-1), .putfield 33, .return_])
def mPK_writeHead : xM := (⟨"RowPacker$Packer", "writeHead", "(I)V"⟩, prog_5_method_3_code, 3, none, 4,
  [.iload_n 1, .iconst 1, .if_icmp .ne 26, .aload_n 0, .getfield 67, .bipush 120, .bipush 8, .invokevirtual 129, .aload_n 0, .getfield 67, .sipush 156, .bipush 8, .invokevirtual 129, .iload_n 1, .iconst 2, .if_icmp .ne 73, .aload_n 0, .getfield 67, .bipush 31, .bipush 8, .invokevirtual 129, .aload_n 0, .getfield 67, .sipush 139, .bipush 8, .invokevirtual 129, .aload_n 0, .getfield 67, .bipush 8, .bipush 8, .invokevirtual 129, .iconst 0, .istore_n 2, .iload_n 2, .bipush 6, .if_icmp .ge 19, .aload_n 0, .getfield 67, .iconst 0, .bipush 8, .invokevirtual 129, .iinc 2 1, .goto (-19), .aload_n 0, .getfield 67, .sipush 255, .bipush 8, .invokevirtual 129, .return_])
def mBW_writeNumber : xM := (⟨"RowPacker$BitWriter", "writeNumber", "(II)V"⟩, prog_2_method_4_code, 4, none, 1,
  [.aload_n 0, .dup, .getfield 19, .iload_n 1, .aload_n 0, .getfield 22, .ishl, .ior, .putfield 19, .aload_n 0, .dup, .getfield 22, .iload_n 2, .iadd, .putfield 22, .iconst 0, .istore_n 3, .iload_n 3, .iconst 3, .if_icmp .ge 51, .aload_n 0, .getfield 22, .bipush 8, .if_icmp .lt 42, .aload_n 0, .getfield 7, .aload_n 0, .getfield 19, .invokevirtual 25, .aload_n 0, .dup, .getfield 19, .bipush 8, .iushr, .putfield 19, .aload_n 0, .dup, .getfield 22, .bipush 8, .isub, .putfield 22, .iinc 3 1, .goto (-50), .return_])
def mPK_takePieces : xM := (⟨"RowPacker$Packer", "takePieces", "()V"⟩, prog_5_method_5_code, 1, none, 4,
  [.aload_n 0, .aload_n 0, .getfield 99, .putfield 146, .aload_n 0, .iconst 0, .putfield 107, .aload_n 0, .iconst 0, .putfield 149, .aload_n 0, .getfield 37, .iconst 0, .invokestatic 78, .aload_n 0, .getfield 40, .iconst 0, .invokestatic 78, .aload_n 0, .getfield 37, .sipush 256, .iconst 1, .iastore, .aload_n 0, .getfield 107, .sipush 1024, .if_icmp .ge 34, .aload_n 0, .getfield 99, .aload_n 0, .getfield 43, .getfield 114, .if_icmp .ge 20, .aload_n 0, .invokevirtual 152, .aload_n 0, .dup, .getfield 107, .iconst 1, .iadd, .putfield 107, .goto (-38), .return_])
def mPK_takePiece : xM := (⟨"RowPacker$Packer", "takePiece", "()V"⟩, prog_5_method_6_code, 3, none, 4,
  [.aload_n 0, .getfield 60, .aload_n 0, .getfield 99, .invokevirtual 155, .aload_n 0, .getfield 60, .getfield 158, .istore_n 1, .aload_n 0, .getfield 60, .getfield 161, .istore_n 2, .iload_n 1, .ifCond .le 36, .iload_n 1, .sipush 258, .if_icmp .ge 29, .aload_n 0, .getfield 60, .aload_n 0, .getfield 99, .iconst 1, .iadd, .invokevirtual 155, .aload_n 0, .getfield 60, .getfield 158, .iload_n 1, .if_icmp .le 5, .iconst 0, .istore_n 1, .iload_n 1, .ifCond .le 12, .aload_n 0, .iload_n 1, .iload_n 2, .invokevirtual 164, .goto 7, .aload_n 0, .invokevirtual 167, .return_])
def mFI_find : xM := (⟨"RowPacker$Finder", "find", "(I)V"⟩, prog_3_method_3_code, 3, none, 2,
  [.iload_n 1, .aload_n 0, .getfield 33, .if_icmp .ne 4, .return_, .aload_n 0, .iload_n 1, .putfield 33, .aload_n 0, .iconst 0, .putfield 36, .aload_n 0, .iload_n 1, .invokevirtual 39, .sipush 258, .aload_n 0, .getfield 19, .getfield 43, .iload_n 1, .isub, .invokestatic 48, .istore_n 2, .iload_n 2, .iconst 3, .if_icmp .lt 9, .aload_n 0, .iload_n 1, .iload_n 2, .invokevirtual 54, .return_])
def mFI_enterPlacesBefore : xM := (⟨"RowPacker$Finder", "enterPlacesBefore", "(I)V"⟩, prog_3_method_4_code, 3, none, 2,
  [.aload_n 0, .getfield 29, .iload_n 1, .if_icmp .ge 66, .aload_n 0, .getfield 29, .iconst 3, .iadd, .aload_n 0, .getfield 19, .getfield 43, .if_icmp .gt 50, .aload_n 0, .aload_n 0, .getfield 29, .invokevirtual 58, .istore_n 2, .aload_n 0, .getfield 16, .aload_n 0, .getfield 29, .aload_n 0, .getfield 11, .iload_n 2, .iaload, .iastore, .aload_n 0, .getfield 11, .iload_n 2, .aload_n 0, .getfield 29, .iastore, .aload_n 0, .dup, .getfield 29, .iconst 1, .iadd, .putfield 29, .goto (-68), .return_])
def mFI_keyAt : xM := (⟨"RowPacker$Finder", "keyAt", "(I)I"⟩, prog_3_method_5_code, 4, (some .int), 2,
  [.aload_n 0, .getfield 19, .getfield 62, .astore_n 2, .aload_n 2, .iload_n 1, .baload, .sipush 255, .iand, .aload_n 2, .iload_n 1, .iconst 1, .iadd, .baload, .sipush 255, .iand, .bipush 8, .ishl, .ior, .aload_n 2, .iload_n 1, .iconst 2, .iadd, .baload, .sipush 255, .iand, .bipush 16, .ishl, .ior, .istore_n 3, .iload_n 3, .ldc 66, .imul, .bipush 20, .iushr, .ireturn])
def mMA_min : xM := (⟨"java/lang/Math", "min", "(II)I"⟩, prog_23_method_69_code, 2, (some .int), 18,
  [.iload_n 0, .iload_n 1, .if_icmp .gt 7, .iload_n 0, .goto 4, .iload_n 1, .ireturn])
def mFI_search : xM := (⟨"RowPacker$Finder", "search", "(II)V"⟩, prog_3_method_6_code, 9, none, 2,
  [.aload_n 0, .getfield 19, .getfield 62, .astore_n 3, .iconst 0, .iload_n 1, .sipush 4096, .isub, .invokestatic 67, .istore 4, .iconst 2, .istore 5, .aload_n 0, .getfield 11, .aload_n 0, .iload_n 1, .invokevirtual 58, .iaload, .istore 6, .iconst 0, .istore 7, .iload 7, .sipush 4096, .if_icmp .ge 82, .iload 6, .iload 4, .if_icmp .lt 75, .iload 5, .iload_n 2, .if_icmp .ge 69, .aload_n 3, .iload 6, .iload 5, .iadd, .baload, .aload_n 3, .iload_n 1, .iload 5, .iadd, .baload, .if_icmp .ne 38, .aload_n 0, .iload 6, .iload_n 1, .iload_n 2, .invokevirtual 70, .istore 8, .iload 8, .iload 5, .if_icmp .le 21, .iload 8, .istore 5, .aload_n 0, .iload 8, .putfield 36, .aload_n 0, .iload_n 1, .iload 6, .isub, .putfield 74, .aload_n 0, .getfield 16, .iload 6, .iaload, .istore 6, .iinc 7 1, .goto (-84), .return_])
def mMA_max : xM := (⟨"java/lang/Math", "max", "(II)I"⟩, prog_23_method_65_code, 2, (some .int), 18,
  [.iload_n 0, .iload_n 1, .if_icmp .lt 7, .iload_n 0, .goto 4, .iload_n 1, .ireturn])
def mFI_sameBytes : xM := (⟨"RowPacker$Finder", "sameBytes", "(III)I"⟩, prog_3_method_7_code, 6, (some .int), 2,
  [.aload_n 0, .getfield 19, .getfield 62, .astore 4, .iconst 0, .istore 5, .iload 5, .iload_n 3, .if_icmp .ge 26, .aload 4, .iload_n 1, .iload 5, .iadd, .baload, .aload 4, .iload_n 2, .iload 5, .iadd, .baload, .if_icmp .ne 9, .iinc 5 1, .goto (-26), .iload 5, .ireturn])
def mPK_takeStretch : xM := (⟨"RowPacker$Packer", "takeStretch", "(II)V"⟩, prog_5_method_8_code, 5, none, 4,
  [.iload_n 1, .invokestatic 173, .istore_n 3, .iload_n 2, .invokestatic 176, .istore 4, .aload_n 0, .getfield 30, .aload_n 0, .getfield 107, .iload_n 1, .iastore, .aload_n 0, .getfield 34, .aload_n 0, .getfield 107, .iload_n 2, .iastore, .aload_n 0, .getfield 37, .sipush 257, .iload_n 3, .iadd, .dup2, .iaload, .iconst 1, .iadd, .iastore, .aload_n 0, .getfield 40, .iload 4, .dup2, .iaload, .iconst 1, .iadd, .iastore, .aload_n 0, .dup, .getfield 149, .iload_n 3, .invokestatic 179, .iload 4, .invokestatic 182, .iadd, .iadd, .putfield 149, .aload_n 0, .dup, .getfield 99, .iload_n 1, .iadd, .putfield 99, .aload_n 0, .getfield 47, .dup, .getfield 185, .iconst 1, .iadd, .putfield 185, .return_])
def mRP_lengthSymbol : xM := (⟨"RowPacker", "lengthSymbol", "(I)I"⟩, prog_1_method_19_code, 3, (some .int), 0,
  [.iload_n 0, .sipush 258, .if_icmp .ne 6, .bipush 28, .ireturn, .iload_n 0, .iconst 3, .isub, .istore_n 1, .iload_n 1, .bipush 8, .invokestatic 119, .istore_n 2, .iconst 4, .iload_n 2, .imul, .iload_n 1, .iload_n 2, .ishr, .iadd, .ireturn])
def mRP_bitsAbove : xM := (⟨"RowPacker", "bitsAbove", "(II)I"⟩, prog_1_method_23_code, 3, (some .int), 0,
  [.iconst 0, .istore_n 2, .iload_n 2, .bipush 16, .if_icmp .ge 16, .iload_n 0, .iload_n 2, .ishr, .iload_n 1, .if_icmp .lt 9, .iinc 2 1, .goto (-16), .iload_n 2, .ireturn])
def mRP_distanceSymbol : xM := (⟨"RowPacker", "distanceSymbol", "(I)I"⟩, prog_1_method_22_code, 3, (some .int), 0,
  [.iload_n 0, .iconst 1, .isub, .istore_n 1, .iload_n 1, .iconst 4, .invokestatic 119, .istore_n 2, .iconst 2, .iload_n 2, .imul, .iload_n 1, .iload_n 2, .ishr, .iadd, .ireturn])
def mRP_lengthBits : xM := (⟨"RowPacker", "lengthBits", "(I)I"⟩, prog_1_method_17_code, 1, (some .int), 0,
  [.iload_n 0, .bipush 8, .if_icmp .lt 9, .iload_n 0, .bipush 28, .if_icmp .ne 7, .iconst 0, .goto 8, .iload_n 0, .iconst 4, .idiv, .iconst 1, .isub, .ireturn])
def mRP_distanceBits : xM := (⟨"RowPacker", "distanceBits", "(I)I"⟩, prog_1_method_20_code, 1, (some .int), 0,
  [.iload_n 0, .iconst 4, .if_icmp .ge 7, .iconst 0, .goto 8, .iload_n 0, .iconst 2, .idiv, .iconst 1, .isub, .ireturn])
def mPK_takeByte : xM := (⟨"RowPacker$Packer", "takeByte", "()V"⟩, prog_5_method_7_code, 2, none, 4,
  [.aload_n 0, .getfield 43, .aload_n 0, .getfield 99, .invokevirtual 170, .istore_n 1, .aload_n 0, .getfield 30, .aload_n 0, .getfield 107, .iconst 0, .iastore, .aload_n 0, .getfield 34, .aload_n 0, .getfield 107, .iload_n 1, .iastore, .aload_n 0, .getfield 37, .iload_n 1, .dup2, .iaload, .iconst 1, .iadd, .iastore, .aload_n 0, .dup, .getfield 99, .iconst 1, .iadd, .putfield 99, .return_])
def mMC_make : xM := (⟨"RowPacker$MadeCodes", "make", "([I[I)V"⟩, prog_4_method_2_code, 3, none, 3,
  [.aload_n 0, .getfield 29, .aload_n 1, .bipush 15, .aload_n 0, .getfield 14, .getfield 46, .invokevirtual 48, .aload_n 0, .getfield 29, .aload_n 2, .bipush 15, .aload_n 0, .getfield 20, .getfield 46, .invokevirtual 48, .aload_n 0, .aload_n 0, .getfield 14, .invokevirtual 52, .putfield 56, .aload_n 0, .iconst 1, .aload_n 0, .getfield 20, .invokevirtual 52, .invokestatic 60, .putfield 66, .aload_n 0, .getfield 14, .getfield 46, .iconst 0, .aload_n 0, .getfield 33, .iconst 0, .aload_n 0, .getfield 56, .invokestatic 69, .aload_n 0, .getfield 20, .getfield 46, .iconst 0, .aload_n 0, .getfield 33, .aload_n 0, .getfield 56, .aload_n 0, .getfield 66, .invokestatic 69, .aload_n 0, .aload_n 0, .getfield 56, .aload_n 0, .getfield 66, .iadd, .invokevirtual 75, .aload_n 0, .invokevirtual 78, .aload_n 0, .getfield 29, .aload_n 0, .getfield 43, .bipush 7, .aload_n 0, .getfield 23, .getfield 46, .invokevirtual 48, .aload_n 0, .bipush 19, .putfield 81, .aload_n 0, .getfield 81, .iconst 4, .if_icmp .le 37, .aload_n 0, .getfield 23, .getfield 46, .getstatic 84, .aload_n 0, .getfield 81, .iconst 1, .isub, .iaload, .iaload, .ifCond .ne 16, .aload_n 0, .dup, .getfield 81, .iconst 1, .isub, .putfield 81, .goto (-39), .return_])
def mWE_makeLengths : xM := (⟨"RowPacker$Weigher", "makeLengths", "([II[I)V"⟩, prog_11_method_2_code, 6, none, 10,
  [.aload_n 0, .aload_n 1, .invokevirtual 28, .aload_n 3, .iconst 0, .invokestatic 32, .aload_n 0, .getfield 38, .iconst 1, .if_icmp .ne 12, .aload_n 3, .aload_n 0, .getfield 9, .iconst 0, .iaload, .iconst 1, .iastore, .aload_n 0, .getfield 38, .iconst 2, .if_icmp .ge 4, .return_, .iconst 0, .istore 4, .iconst 0, .istore 5, .iload 5, .iload_n 2, .if_icmp .ge 21, .aload_n 0, .iload 5, .iload 4, .iconst 2, .idiv, .invokevirtual 42, .istore 4, .iinc 5 1, .goto (-21), .aload_n 0, .iload_n 2, .aload_n 3, .invokevirtual 46, .return_])
def mWE_sortSymbols : xM := (⟨"RowPacker$Weigher", "sortSymbols", "([I)V"⟩, prog_11_method_3_code, 5, none, 10,
  [.aload_n 0, .iconst 0, .putfield 38, .iconst 0, .istore_n 2, .iload_n 2, .aload_n 1, .arraylength, .if_icmp .ge 105, .aload_n 1, .iload_n 2, .iaload, .istore_n 3, .iload_n 3, .ifCond .le 91, .aload_n 0, .getfield 38, .istore 4, .iload 4, .ifCond .le 54, .aload_n 0, .getfield 15, .iload 4, .iconst 1, .isub, .iaload, .iload_n 3, .if_icmp .le 41, .aload_n 0, .getfield 15, .iload 4, .aload_n 0, .getfield 15, .iload 4, .iconst 1, .isub, .iaload, .iastore, .aload_n 0, .getfield 9, .iload 4, .aload_n 0, .getfield 9, .iload 4, .iconst 1, .isub, .iaload, .iastore, .iinc 4 (-1), .goto (-53), .aload_n 0, .getfield 15, .iload 4, .iload_n 3, .iastore, .aload_n 0, .getfield 9, .iload 4, .iload_n 2, .iastore, .aload_n 0, .dup, .getfield 38, .iconst 1, .iadd, .putfield 38, .iinc 2 1, .goto (-105), .return_])
def mWE_makeRow : xM := (⟨"RowPacker$Weigher", "makeRow", "(II)I"⟩, prog_11_method_4_code, 9, (some .int), 10,
  [.aload_n 0, .getfield 38, .iload_n 2, .iadd, .istore_n 3, .iconst 0, .istore 4, .iconst 0, .istore 5, .iconst 0, .istore 6, .iload 6, .iload_n 3, .if_icmp .ge 128, .iload 5, .iload_n 2, .if_icmp .ge 27, .aload_n 0, .getfield 18, .iconst 2, .iload 5, .imul, .iaload, .aload_n 0, .getfield 18, .iconst 2, .iload 5, .imul, .iconst 1, .iadd, .iaload, .iadd, .goto 4, .iconst 0, .istore 7, .iload 5, .iload_n 2, .if_icmp .ge 24, .iload 4, .aload_n 0, .getfield 38, .if_icmp .ge 19, .aload_n 0, .getfield 15, .iload 4, .iaload, .iload 7, .if_icmp .gt 7, .iconst 1, .goto 4, .iconst 0, .istore 8, .aload_n 0, .getfield 24, .iload_n 1, .sipush 572, .imul, .iload 6, .iadd, .iload 8, .bastore, .iload 8, .ifCond .eq 23, .aload_n 0, .getfield 21, .iload 6, .aload_n 0, .getfield 15, .iload 4, .iaload, .iastore, .iinc 4 1, .goto 15, .aload_n 0, .getfield 21, .iload 6, .iload 7, .iastore, .iinc 5 1, .iinc 6 1, .goto (-128), .aload_n 0, .getfield 18, .astore 6, .aload_n 0, .aload_n 0, .getfield 21, .putfield 18, .aload_n 0, .aload 6, .putfield 21, .iload_n 3, .ireturn])
def mWE_countSymbols : xM := (⟨"RowPacker$Weigher", "countSymbols", "(I[I)V"⟩, prog_11_method_5_code, 7, none, 10,
  [.iconst 2, .aload_n 0, .getfield 38, .imul, .iconst 2, .isub, .istore_n 3, .iload_n 1, .iconst 1, .isub, .istore 4, .iload 4, .ifCond .lt 67, .iconst 0, .istore 5, .iconst 0, .istore 6, .iload 6, .iload_n 3, .if_icmp .ge 42, .aload_n 0, .getfield 24, .iload 4, .sipush 572, .imul, .iload 6, .iadd, .baload, .ifCond .eq 19, .aload_n 2, .aload_n 0, .getfield 9, .iload 5, .iaload, .dup2, .iaload, .iconst 1, .iadd, .iastore, .iinc 5 1, .iinc 6 1, .goto (-42), .iconst 2, .iload_n 3, .iload 5, .isub, .imul, .istore_n 3, .iinc 4 (-1), .goto (-66), .return_])
def mWC_manyWithCode : xM := (⟨"RowPacker$WriteCode", "manyWithCode", "()I"⟩, prog_12_method_5_code, 2, (some .int), 11,
  [.aload_n 0, .getfield 15, .arraylength, .istore_n 1, .iload_n 1, .ifCond .le 20, .aload_n 0, .getfield 15, .iload_n 1, .iconst 1, .isub, .iaload, .ifCond .ne 9, .iinc 1 (-1), .goto (-18), .iload_n 1, .ireturn])
def mMC_tellRow : xM := (⟨"RowPacker$MadeCodes", "tellRow", "(I)V"⟩, prog_4_method_6_code, 4, none, 3,
  [.aload_n 0, .iconst 0, .putfield 87, .iconst 0, .istore_n 2, .iconst 1, .istore_n 3, .iload_n 3, .iload_n 1, .if_icmp .gt 44, .iload_n 3, .iload_n 1, .if_icmp .eq 18, .aload_n 0, .getfield 33, .iload_n 3, .iaload, .aload_n 0, .getfield 33, .iload_n 2, .iaload, .if_icmp .eq 18, .aload_n 0, .aload_n 0, .getfield 33, .iload_n 2, .iaload, .iload_n 3, .iload_n 2, .isub, .invokevirtual 107, .iload_n 3, .istore_n 2, .iinc 3 1, .goto (-43), .return_])
def mMC_tellRun : xM := (⟨"RowPacker$MadeCodes", "tellRun", "(II)V"⟩, prog_4_method_7_code, 5, none, 3,
  [.iload_n 2, .istore_n 3, .iload_n 1, .ifCond .eq 12, .aload_n 0, .iload_n 1, .iconst 0, .invokevirtual 110, .iinc 3 (-1), .iload_n 3, .iconst 3, .if_icmp .lt 81, .iload_n 1, .ifCond .eq 29, .iload_n 3, .bipush 6, .invokestatic 113, .istore 4, .aload_n 0, .bipush 16, .iload 4, .iconst 3, .isub, .invokevirtual 110, .iload_n 3, .iload 4, .isub, .istore_n 3, .goto (-32), .iload_n 3, .bipush 11, .if_icmp .lt 31, .iload_n 3, .sipush 138, .invokestatic 113, .istore 4, .aload_n 0, .bipush 18, .iload 4, .bipush 11, .isub, .invokevirtual 110, .iload_n 3, .iload 4, .isub, .istore_n 3, .goto (-66), .aload_n 0, .bipush 17, .iload_n 3, .iconst 3, .isub, .invokevirtual 110, .iconst 0, .istore_n 3, .goto (-80), .iconst 0, .istore 4, .iload 4, .iload_n 3, .if_icmp .ge 15, .aload_n 0, .iload_n 1, .iconst 0, .invokevirtual 110, .iinc 4 1, .goto (-15), .return_])
def mMC_tell : xM := (⟨"RowPacker$MadeCodes", "tell", "(II)V"⟩, prog_4_method_8_code, 3, none, 3,
  [.aload_n 0, .getfield 37, .aload_n 0, .getfield 87, .iload_n 1, .iastore, .aload_n 0, .getfield 40, .aload_n 0, .getfield 87, .iload_n 2, .iastore, .aload_n 0, .dup, .getfield 87, .iconst 1, .iadd, .putfield 87, .return_])
def mMC_weighTold : xM := (⟨"RowPacker$MadeCodes", "weighTold", "()V"⟩, prog_4_method_9_code, 3, none, 3,
  [.aload_n 0, .getfield 43, .iconst 0, .invokestatic 116, .iconst 0, .istore_n 1, .iconst 0, .istore_n 2, .iload_n 2, .aload_n 0, .getfield 87, .if_icmp .ge 41, .aload_n 0, .getfield 43, .aload_n 0, .getfield 37, .iload_n 2, .iaload, .iaload, .ifCond .ne 6, .iinc 1 1, .aload_n 0, .getfield 43, .aload_n 0, .getfield 37, .iload_n 2, .iaload, .dup2, .iaload, .iconst 1, .iadd, .iastore, .iinc 2 1, .goto (-43), .iload_n 1, .iconst 1, .if_icmp .ne 23, .aload_n 0, .getfield 43, .aload_n 0, .getfield 43, .iconst 0, .iaload, .ifCond .ne 7, .iconst 0, .goto 4, .iconst 1, .iconst 1, .iastore, .return_])
def mPK_writeBlock : xM := (⟨"RowPacker$Packer", "writeBlock", "(Z)V"⟩, prog_5_method_9_code, 4, none, 4,
  [.aload_n 0, .getfield 67, .invokevirtual 188, .istore_n 2, .aload_n 0, .iload_n 2, .invokevirtual 192, .istore_n 3, .aload_n 0, .getfield 67, .iload_n 1, .ifCond .eq 7, .iconst 1, .goto 4, .iconst 0, .iconst 1, .invokevirtual 129, .aload_n 0, .getfield 67, .iload_n 3, .iconst 2, .invokevirtual 129, .iload_n 3, .ifCond .ne 10, .aload_n 0, .invokevirtual 195, .goto 72, .iload_n 3, .iconst 1, .if_icmp .ne 18, .aload_n 0, .aload_n 0, .getfield 14, .aload_n 0, .getfield 20, .invokevirtual 198, .goto 52, .aload_n 0, .getfield 26, .getfield 202, .invokevirtual 84, .aload_n 0, .getfield 26, .getfield 205, .invokevirtual 84, .aload_n 0, .getfield 26, .aload_n 0, .getfield 67, .invokevirtual 208, .aload_n 0, .aload_n 0, .getfield 26, .getfield 202, .aload_n 0, .getfield 26, .getfield 205, .invokevirtual 198, .aload_n 0, .getfield 47, .iload_n 3, .iload_n 2, .aload_n 0, .getfield 67, .invokevirtual 188, .iload_n 2, .isub, .aload_n 0, .getfield 99, .aload_n 0, .getfield 146, .isub, .invokevirtual 212, .return_])
def mBW_bitsWritten : xM := (⟨"RowPacker$BitWriter", "bitsWritten", "()I"⟩, prog_2_method_3_code, 1, (some .int), 1,
  [.bipush 8, .aload_n 0, .getfield 7, .getfield 13, .imul, .aload_n 0, .getfield 22, .iadd, .ireturn])
def mPK_fewestBits : xM := (⟨"RowPacker$Packer", "fewestBits", "(I)I"⟩, prog_5_method_10_code, 6, (some .int), 4,
  [.iconst 0, .istore_n 2, .iconst 3, .iload_n 1, .iconst 3, .iadd, .ineg, .bipush 7, .iand, .iadd, .bipush 32, .iadd, .bipush 8, .aload_n 0, .getfield 99, .aload_n 0, .getfield 146, .isub, .imul, .iadd, .istore_n 3, .iconst 3, .aload_n 0, .getfield 149, .iadd, .aload_n 0, .getfield 14, .aload_n 0, .getfield 37, .invokevirtual 216, .iadd, .aload_n 0, .getfield 20, .aload_n 0, .getfield 40, .invokevirtual 216, .iadd, .istore 4, .iload 4, .iload_n 3, .if_icmp .ge 8, .iconst 1, .istore_n 2, .iload 4, .istore_n 3, .aload_n 0, .getfield 107, .ifCond .le 57, .iconst 3, .aload_n 0, .getfield 149, .iadd, .aload_n 0, .getfield 26, .invokevirtual 220, .iadd, .aload_n 0, .getfield 26, .getfield 202, .aload_n 0, .getfield 37, .invokevirtual 216, .iadd, .aload_n 0, .getfield 26, .getfield 205, .aload_n 0, .getfield 40, .invokevirtual 216, .iadd, .istore 5, .iload 5, .iload_n 3, .if_icmp .ge 5, .iconst 2, .istore_n 2, .iload_n 2, .ireturn])
def mWC_bitsFor : xM := (⟨"RowPacker$WriteCode", "bitsFor", "([I)I"⟩, prog_12_method_4_code, 4, (some .int), 11,
  [.iconst 0, .istore_n 2, .iconst 0, .istore_n 3, .iload_n 3, .aload_n 1, .arraylength, .if_icmp .ge 31, .iload_n 3, .aload_n 0, .getfield 15, .arraylength, .if_icmp .ge 22, .iload_n 2, .aload_n 1, .iload_n 3, .iaload, .aload_n 0, .getfield 15, .iload_n 3, .iaload, .imul, .iadd, .istore_n 2, .iinc 3 1, .goto (-31), .iload_n 2, .ireturn])
def mMC_bitsOfTelling : xM := (⟨"RowPacker$MadeCodes", "bitsOfTelling", "()I"⟩, prog_4_method_3_code, 3, (some .int), 3,
  [.bipush 14, .iconst 3, .aload_n 0, .getfield 81, .imul, .iadd, .istore_n 1, .iconst 0, .istore_n 2, .iload_n 2, .aload_n 0, .getfield 87, .if_icmp .ge 36, .iload_n 1, .aload_n 0, .getfield 23, .getfield 46, .aload_n 0, .getfield 37, .iload_n 2, .iaload, .iaload, .aload_n 0, .getfield 37, .iload_n 2, .iaload, .invokestatic 90, .iadd, .iadd, .istore_n 1, .iinc 2 1, .goto (-38), .iload_n 1, .ireturn])
def mMC_numberBits : xM := (⟨"RowPacker$MadeCodes", "numberBits", "(I)I"⟩, prog_4_method_5_code, 1, (some .int), 3,
  [.iload_n 0, .bipush 16, .if_icmp .ge 5, .iconst 0, .ireturn, .iload_n 0, .bipush 16, .if_icmp .ne 7, .iconst 2, .goto 15, .iload_n 0, .bipush 17, .if_icmp .ne 7, .iconst 3, .goto 5, .bipush 7, .ireturn])
def mPK_writePlain : xM := (⟨"RowPacker$Packer", "writePlain", "()V"⟩, prog_5_method_11_code, 3, none, 4,
  [.aload_n 0, .getfield 99, .aload_n 0, .getfield 146, .isub, .istore_n 1, .aload_n 0, .getfield 67, .invokevirtual 123, .aload_n 0, .getfield 67, .iload_n 1, .bipush 16, .invokevirtual 129, .aload_n 0, .getfield 67, .ldc 223, .iload_n 1, .isub, .bipush 16, .invokevirtual 129, .aload_n 0, .getfield 146, .istore_n 2, .iload_n 2, .aload_n 0, .getfield 99, .if_icmp .ge 26, .aload_n 0, .getfield 67, .aload_n 0, .getfield 43, .iload_n 2, .invokevirtual 170, .bipush 8, .invokevirtual 129, .iinc 2 1, .goto (-28), .return_])
def mBW_fillByte : xM := (⟨"RowPacker$BitWriter", "fillByte", "()V"⟩, prog_2_method_5_code, 1, none, 1,
  [.aload_n 0, .iconst 0, .aload_n 0, .getfield 22, .ineg, .bipush 7, .iand, .invokevirtual 29, .return_])
def mPK_writePieces : xM := (⟨"RowPacker$Packer", "writePieces", "(LRowPacker$WriteCode;LRowPacker$WriteCode;)V"⟩, prog_5_method_12_code, 8, none, 4,
  [.iconst 0, .istore_n 3, .iload_n 3, .aload_n 0, .getfield 107, .if_icmp .ge 121, .aload_n 0, .getfield 30, .iload_n 3, .iaload, .istore 4, .aload_n 0, .getfield 34, .iload_n 3, .iaload, .istore 5, .iload 4, .ifCond .ne 16, .aload_n 0, .getfield 67, .aload_n 1, .iload 5, .invokevirtual 224, .goto 81, .iload 4, .invokestatic 173, .istore 6, .iload 5, .invokestatic 176, .istore 7, .aload_n 0, .getfield 67, .aload_n 1, .sipush 257, .iload 6, .iadd, .invokevirtual 224, .aload_n 0, .getfield 67, .iload 4, .iload 6, .invokestatic 228, .isub, .iload 6, .invokestatic 179, .invokevirtual 129, .aload_n 0, .getfield 67, .aload_n 2, .iload 7, .invokevirtual 224, .aload_n 0, .getfield 67, .iload 5, .iload 7, .invokestatic 231, .isub, .iload 7, .invokestatic 182, .invokevirtual 129, .iinc 3 1, .goto (-123), .aload_n 0, .getfield 67, .aload_n 1, .sipush 256, .invokevirtual 224, .return_])
def mBW_writeSymbol : xM := (⟨"RowPacker$BitWriter", "writeSymbol", "(LRowPacker$WriteCode;I)V"⟩, prog_2_method_7_code, 3, none, 1,
  [.aload_n 0, .aload_n 1, .getfield 33, .iload_n 2, .iaload, .aload_n 1, .getfield 39, .iload_n 2, .iaload, .invokevirtual 29, .return_])
def mRP_lengthBase : xM := (⟨"RowPacker", "lengthBase", "(I)I"⟩, prog_1_method_18_code, 1, (some .int), 0,
  [.iload_n 0, .bipush 8, .if_icmp .ge 7, .iconst 3, .iload_n 0, .iadd, .ireturn, .iload_n 0, .bipush 28, .if_icmp .ne 9, .sipush 258, .goto 15, .iconst 4, .iload_n 0, .iconst 4, .irem, .iadd, .iload_n 0, .invokestatic 116, .ishl, .iconst 3, .iadd, .ireturn])
def mRP_distanceBase : xM := (⟨"RowPacker", "distanceBase", "(I)I"⟩, prog_1_method_21_code, 1, (some .int), 0,
  [.iload_n 0, .iconst 4, .if_icmp .ge 9, .iconst 1, .iload_n 0, .iadd, .goto 15, .iconst 2, .iload_n 0, .iconst 2, .irem, .iadd, .iload_n 0, .invokestatic 123, .ishl, .iconst 1, .iadd, .ireturn])
def mMC_writeTelling : xM := (⟨"RowPacker$MadeCodes", "writeTelling", "(LRowPacker$BitWriter;)V"⟩, prog_4_method_4_code, 3, none, 3,
  [.aload_n 0, .getfield 23, .invokevirtual 94, .aload_n 1, .aload_n 0, .getfield 56, .sipush 257, .isub, .iconst 5, .invokevirtual 97, .aload_n 1, .aload_n 0, .getfield 66, .iconst 1, .isub, .iconst 5, .invokevirtual 97, .aload_n 1, .aload_n 0, .getfield 81, .iconst 4, .isub, .iconst 4, .invokevirtual 97, .iconst 0, .istore_n 2, .iload_n 2, .aload_n 0, .getfield 81, .if_icmp .ge 27, .aload_n 1, .aload_n 0, .getfield 23, .getfield 46, .getstatic 84, .iload_n 2, .iaload, .iaload, .iconst 3, .invokevirtual 97, .iinc 2 1, .goto (-29), .iconst 0, .istore_n 2, .iload_n 2, .aload_n 0, .getfield 87, .if_icmp .ge 42, .aload_n 1, .aload_n 0, .getfield 23, .aload_n 0, .getfield 37, .iload_n 2, .iaload, .invokevirtual 103, .aload_n 1, .aload_n 0, .getfield 40, .iload_n 2, .iaload, .aload_n 0, .getfield 37, .iload_n 2, .iaload, .invokestatic 90, .invokevirtual 97, .iinc 2 1, .goto (-44), .return_])
def mRE_addBlock : xM := (⟨"RowPacker$Report", "addBlock", "(IIII)V"⟩, prog_7_method_3_code, 6, none, 6,
  [.aload_n 0, .getfield 22, .bipush 64, .if_icmp .ge 50, .iconst 4, .aload_n 0, .getfield 22, .imul, .istore 5, .aload_n 0, .getfield 11, .iload 5, .iload_n 1, .iastore, .aload_n 0, .getfield 11, .iload 5, .iconst 1, .iadd, .iload_n 2, .iastore, .aload_n 0, .getfield 11, .iload 5, .iconst 2, .iadd, .iload_n 3, .iastore, .aload_n 0, .getfield 11, .iload 5, .iconst 3, .iadd, .iload 4, .iastore, .aload_n 0, .dup, .getfield 22, .iconst 1, .iadd, .putfield 22, .return_])
def mPK_writeTail : xM := (⟨"RowPacker$Packer", "writeTail", "(I)V"⟩, prog_5_method_4_code, 2, none, 4,
  [.iload_n 1, .iconst 1, .if_icmp .ne 30, .aload_n 0, .getfield 67, .aload_n 0, .getfield 51, .aload_n 0, .getfield 43, .iconst 0, .aload_n 0, .getfield 43, .getfield 114, .invokevirtual 133, .iconst 1, .invokevirtual 139, .iload_n 1, .iconst 2, .if_icmp .ne 46, .aload_n 0, .getfield 67, .aload_n 0, .getfield 51, .aload_n 0, .getfield 43, .iconst 0, .aload_n 0, .getfield 43, .getfield 114, .invokevirtual 143, .iconst 0, .invokevirtual 139, .aload_n 0, .getfield 67, .aload_n 0, .getfield 43, .getfield 114, .i2l, .iconst 0, .invokevirtual 139, .return_])
def mSU_sumA : xM := (⟨"RowPacker$Sums", "sumA", "(LRowPacker$Row;II)J"⟩, prog_9_method_2_code, 7, (some .long), 8,
  [.iconst 1, .istore 4, .iconst 0, .istore 5, .iload_n 2, .istore 6, .iload 6, .iload_n 3, .if_icmp .ge 55, .iload 4, .aload_n 1, .iload 6, .invokevirtual 14, .iadd, .istore 4, .iload 4, .ldc 20, .if_icmp .lt 10, .iload 4, .ldc 20, .isub, .istore 4, .iload 5, .iload 4, .iadd, .istore 5, .iload 5, .ldc 20, .if_icmp .lt 10, .iload 5, .ldc 20, .isub, .istore 5, .iinc 6 1, .goto (-55), .ldc2_w 21, .iload 5, .i2l, .lmul, .iload 4, .i2l, .ladd, .lreturn])
def mBW_writeFour : xM := (⟨"RowPacker$BitWriter", "writeFour", "(JZ)V"⟩, prog_2_method_6_code, 6, none, 1,
  [.iconst 0, .istore 4, .iload 4, .iconst 4, .if_icmp .ge 46, .iload_n 3, .ifCond .eq 14, .bipush 24, .bipush 8, .iload 4, .imul, .isub, .goto 8, .bipush 8, .iload 4, .imul, .istore 5, .aload_n 0, .lload_n 1, .iload 5, .lshr, .l2i, .sipush 255, .iand, .bipush 8, .invokevirtual 29, .iinc 4 1, .goto (-46), .return_])
def mSU_sumB : xM := (⟨"RowPacker$Sums", "sumB", "(LRowPacker$Row;II)J"⟩, prog_9_method_3_code, 6, (some .long), 8,
  [.iconst (-1), .istore 4, .iload_n 2, .istore 5, .iload 5, .iload_n 3, .if_icmp .ge 35, .iload 4, .bipush 8, .iushr, .aload_n 0, .getfield 7, .iload 4, .aload_n 1, .iload 5, .invokevirtual 14, .ixor, .sipush 255, .iand, .iaload, .ixor, .istore 4, .iinc 5 1, .goto (-35), .iload 4, .iconst (-1), .ixor, .i2l, .ldc2_w 23, .land, .lreturn])
def mLA_unpack : xM := (⟨"RowPackerLaw", "unpack", "(LRowPacker;I[J)I"⟩, method_8_code, 4, (some .int), 16,
  [.aload_n 2, .iconst 0, .aload_n 0, .iload_n 1, .invokevirtual 34, .i2l, .lastore, .goto 6, .astore_n 3, .iconst 1, .ireturn, .iconst 0, .ireturn])
def mRP_unpack : xM := (⟨"RowPacker", "unpack", "(I)I"⟩, prog_1_method_7_code, 2, (some .int), 0,
  [.iload_n 1, .ifCond .lt 8, .iload_n 1, .iconst 2, .if_icmp .le 11, .new 63, .dup, .invokespecial 65, .athrow, .aload_n 0, .getfield 49, .iload_n 1, .invokevirtual 84, .aload_n 0, .getfield 26, .getfield 87, .ifCond .ne 13, .aload_n 0, .getfield 20, .getfield 53, .goto 4, .iconst (-1), .ireturn])
def mUN_unpackTape : xM := (⟨"RowPacker$Unpacker", "unpackTape", "(I)V"⟩, prog_10_method_2_code, 4, none, 9,
  [.aload_n 0, .getfield 41, .invokevirtual 63, .aload_n 0, .getfield 38, .iconst 0, .putfield 68, .aload_n 0, .iconst 0, .putfield 74, .aload_n 0, .bipush 8, .aload_n 0, .getfield 34, .getfield 68, .imul, .putfield 77, .iconst 1, .istore_n 2, .iconst 0, .istore_n 3, .iload_n 2, .ifCond .eq 71, .iload_n 3, .ldc 80, .if_icmp .ge 65, .aload_n 0, .aload_n 0, .getfield 38, .getfield 68, .putfield 81, .aload_n 0, .iload_n 1, .invokevirtual 84, .ifCond .eq 38, .aload_n 0, .invokevirtual 88, .ifCond .eq 31, .aload_n 0, .iload_n 1, .invokevirtual 92, .ifCond .eq 23, .iload_n 1, .iconst 2, .if_icmp .ne 18, .aload_n 0, .getfield 74, .aload_n 0, .getfield 77, .if_icmp .ge 7, .iconst 1, .goto 4, .iconst 0, .istore_n 2, .iinc 3 1, .goto (-69), .aload_n 0, .getfield 41, .getfield 95, .ifCond .ne 25, .aload_n 0, .getfield 74, .aload_n 0, .getfield 77, .if_icmp .ge 14, .aload_n 0, .bipush 11, .aload_n 0, .getfield 74, .invokevirtual 98, .pop, .aload_n 0, .getfield 41, .getfield 95, .ifCond .eq 11, .aload_n 0, .getfield 38, .iconst 0, .putfield 68, .return_])
def mUN_readHead : xM := (⟨"RowPacker$Unpacker", "readHead", "(I)Z"⟩, prog_10_method_4_code, 2, (some .boolean), 9,
  [.iload_n 1, .ifCond .ne 5, .iconst 1, .ireturn, .iload_n 1, .iconst 1, .if_icmp .ne 10, .aload_n 0, .invokevirtual 105, .goto 7, .aload_n 0, .invokevirtual 108, .ireturn])
def mUN_readShortHead : xM := (⟨"RowPacker$Unpacker", "readShortHead", "()Z"⟩, prog_10_method_5_code, 3, (some .boolean), 9,
  [.aload_n 0, .bipush 8, .invokevirtual 111, .istore_n 1, .iload_n 1, .iconst (-1), .if_icmp .ne 5, .iconst 0, .ireturn, .iload_n 1, .bipush 15, .iand, .bipush 8, .if_icmp .ne 11, .iload_n 1, .iconst 4, .ishr, .bipush 7, .if_icmp .le 17, .aload_n 0, .bipush 12, .aload_n 0, .getfield 74, .bipush 8, .isub, .invokevirtual 98, .ireturn, .aload_n 0, .bipush 8, .invokevirtual 111, .istore_n 2, .iload_n 2, .iconst (-1), .if_icmp .ne 5, .iconst 0, .ireturn, .iload_n 2, .bipush 32, .iand, .ifCond .ne 16, .sipush 256, .iload_n 1, .imul, .iload_n 2, .iadd, .bipush 31, .irem, .ifCond .eq 17, .aload_n 0, .bipush 12, .aload_n 0, .getfield 74, .bipush 8, .isub, .invokevirtual 98, .ireturn, .iconst 1, .ireturn])
def mUN_readNumber : xM := (⟨"RowPacker$Unpacker", "readNumber", "(I)I"⟩, prog_10_method_14_code, 4, (some .int), 9,
  [.aload_n 0, .getfield 77, .aload_n 0, .getfield 74, .isub, .iload_n 1, .if_icmp .ge 15, .aload_n 0, .iconst 1, .aload_n 0, .getfield 77, .invokevirtual 98, .pop, .iconst (-1), .ireturn, .iconst 0, .istore_n 2, .iconst 0, .istore_n 3, .iload_n 3, .iload_n 1, .if_icmp .ge 48, .iload_n 2, .aload_n 0, .getfield 34, .getfield 144, .aload_n 0, .getfield 74, .iconst 3, .ishr, .baload, .aload_n 0, .getfield 74, .bipush 7, .iand, .ishr, .iconst 1, .iand, .iload_n 3, .ishl, .ior, .istore_n 2, .aload_n 0, .dup, .getfield 74, .iconst 1, .iadd, .putfield 74, .iinc 3 1, .goto (-47), .iload_n 2, .ireturn])
def mUN_fail : xM := (⟨"RowPacker$Unpacker", "fail", "(II)Z"⟩, prog_10_method_3_code, 3, (some .boolean), 9,
  [.aload_n 0, .getfield 41, .iload_n 1, .putfield 95, .aload_n 0, .getfield 41, .iload_n 2, .putfield 102, .iconst 0, .ireturn])
def mUN_readLongHead : xM := (⟨"RowPacker$Unpacker", "readLongHead", "()Z"⟩, prog_10_method_6_code, 4, (some .boolean), 9,
  [.aload_n 0, .getfield 74, .bipush 8, .idiv, .istore_n 1, .aload_n 0, .bipush 31, .invokevirtual 114, .ifCond .eq 22, .aload_n 0, .sipush 139, .invokevirtual 114, .ifCond .eq 12, .aload_n 0, .bipush 8, .invokevirtual 114, .ifCond .ne 5, .iconst 0, .ireturn, .aload_n 0, .bipush 8, .invokevirtual 111, .istore_n 2, .iload_n 2, .iconst (-1), .if_icmp .ne 5, .iconst 0, .ireturn, .iload_n 2, .iconst 5, .ishr, .ifCond .eq 17, .aload_n 0, .bipush 12, .aload_n 0, .getfield 74, .bipush 8, .isub, .invokevirtual 98, .ireturn, .aload_n 0, .bipush 6, .invokevirtual 117, .ifCond .ne 5, .iconst 0, .ireturn, .iload_n 2, .iconst 4, .iand, .ifCond .eq 25, .aload_n 0, .bipush 16, .invokevirtual 111, .istore_n 3, .iload_n 3, .iconst (-1), .if_icmp .eq 11, .aload_n 0, .iload_n 3, .invokevirtual 117, .ifCond .ne 5, .iconst 0, .ireturn, .iload_n 2, .bipush 8, .iand, .ifCond .eq 10, .aload_n 0, .invokevirtual 120, .ifCond .eq 17, .iload_n 2, .bipush 16, .iand, .ifCond .eq 12, .aload_n 0, .invokevirtual 120, .ifCond .ne 5, .iconst 0, .ireturn, .iload_n 2, .iconst 2, .iand, .ifCond .eq 11, .aload_n 0, .iload_n 1, .invokevirtual 123, .ifCond .eq 7, .iconst 1, .goto 4, .iconst 0, .ireturn])
def mUN_readByteThatIs : xM := (⟨"RowPacker$Unpacker", "readByteThatIs", "(I)Z"⟩, prog_10_method_10_code, 3, (some .boolean), 9,
  [.aload_n 0, .bipush 8, .invokevirtual 111, .istore_n 2, .iload_n 2, .iconst (-1), .if_icmp .ne 5, .iconst 0, .ireturn, .iload_n 2, .iload_n 1, .if_icmp .eq 19, .aload_n 0, .bipush 12, .aload_n 0, .getfield 74, .bipush 8, .isub, .invokevirtual 98, .ifCond .eq 7, .iconst 1, .goto 4, .iconst 0, .ireturn])
def mUN_skipBytes : xM := (⟨"RowPacker$Unpacker", "skipBytes", "(I)Z"⟩, prog_10_method_11_code, 2, (some .boolean), 9,
  [.aload_n 0, .getfield 77, .aload_n 0, .getfield 74, .isub, .bipush 8, .iload_n 1, .imul, .if_icmp .ge 13, .aload_n 0, .iconst 1, .aload_n 0, .getfield 77, .invokevirtual 98, .ireturn, .aload_n 0, .dup, .getfield 74, .bipush 8, .iload_n 1, .imul, .iadd, .putfield 74, .iconst 1, .ireturn])
def mUN_skipThroughZero : xM := (⟨"RowPacker$Unpacker", "skipThroughZero", "()Z"⟩, prog_10_method_12_code, 2, (some .boolean), 9,
  [.aload_n 0, .getfield 74, .bipush 8, .idiv, .istore_n 1, .iload_n 1, .aload_n 0, .getfield 34, .getfield 68, .if_icmp .ge 32, .aload_n 0, .getfield 34, .iload_n 1, .invokevirtual 141, .ifCond .ne 15, .aload_n 0, .bipush 8, .iload_n 1, .iconst 1, .iadd, .imul, .putfield 74, .iconst 1, .ireturn, .iinc 1 1, .goto (-37), .aload_n 0, .iconst 1, .aload_n 0, .getfield 77, .invokevirtual 98, .ireturn])
def mUN_readSumOfHead : xM := (⟨"RowPacker$Unpacker", "readSumOfHead", "(I)Z"⟩, prog_10_method_7_code, 5, (some .boolean), 9,
  [.aload_n 0, .getfield 45, .aload_n 0, .getfield 34, .iload_n 1, .aload_n 0, .getfield 74, .bipush 8, .idiv, .invokevirtual 126, .ldc2_w 132, .land, .lstore_n 2, .aload_n 0, .bipush 16, .invokevirtual 111, .istore 4, .iload 4, .iconst (-1), .if_icmp .ne 5, .iconst 0, .ireturn, .iload 4, .i2l, .lload_n 2, .lcmp, .ifCond .eq 19, .aload_n 0, .bipush 13, .aload_n 0, .getfield 74, .bipush 16, .isub, .invokevirtual 98, .ifCond .eq 7, .iconst 1, .goto 4, .iconst 0, .ireturn])
def mUN_readBlocks : xM := (⟨"RowPacker$Unpacker", "readBlocks", "()Z"⟩, prog_10_method_16_code, 8, (some .boolean), 9,
  [.iconst 0, .istore_n 1, .iconst 0, .istore_n 2, .iload_n 1, .ifCond .ne 186, .iload_n 2, .ldc 157, .if_icmp .ge 180, .aload_n 0, .getfield 74, .istore_n 3, .aload_n 0, .getfield 38, .getfield 68, .istore 4, .aload_n 0, .iconst 1, .invokevirtual 111, .istore 5, .iload 5, .iconst (-1), .if_icmp .ne 7, .iconst (-1), .goto 8, .aload_n 0, .iconst 2, .invokevirtual 111, .istore 6, .iload 6, .iconst (-1), .if_icmp .ne 5, .iconst 0, .ireturn, .iload 6, .iconst 3, .if_icmp .ne 15, .aload_n 0, .iconst 2, .aload_n 0, .getfield 74, .iconst 2, .isub, .invokevirtual 98, .ireturn, .iload 6, .ifCond .ne 10, .aload_n 0, .invokevirtual 158, .goto 51, .iload 6, .iconst 1, .if_icmp .ne 18, .aload_n 0, .aload_n 0, .getfield 12, .aload_n 0, .getfield 18, .invokevirtual 161, .goto 30, .aload_n 0, .invokevirtual 165, .ifCond .eq 22, .aload_n 0, .aload_n 0, .getfield 24, .aload_n 0, .getfield 27, .invokevirtual 161, .ifCond .eq 7, .iconst 1, .goto 4, .iconst 0, .istore 7, .iload 7, .ifCond .ne 5, .iconst 0, .ireturn, .aload_n 0, .getfield 41, .iload 6, .iload_n 3, .aload_n 0, .getfield 74, .iload_n 3, .isub, .aload_n 0, .getfield 38, .getfield 68, .iload 4, .isub, .invokevirtual 168, .iload 5, .iconst 1, .if_icmp .ne 7, .iconst 1, .goto 4, .iconst 0, .istore_n 1, .iinc 2 1, .goto (-184), .aload_n 0, .invokevirtual 172, .iconst 1, .ireturn])
def mUN_readPlain : xM := (⟨"RowPacker$Unpacker", "readPlain", "()Z"⟩, prog_10_method_17_code, 3, (some .boolean), 9,
  [.aload_n 0, .invokevirtual 172, .aload_n 0, .bipush 16, .invokevirtual 111, .istore_n 1, .iload_n 1, .iconst (-1), .if_icmp .ne 7, .iconst (-1), .goto 9, .aload_n 0, .bipush 16, .invokevirtual 111, .istore_n 2, .iload_n 2, .iconst (-1), .if_icmp .ne 5, .iconst 0, .ireturn, .iload_n 2, .ldc 175, .iload_n 1, .isub, .if_icmp .eq 16, .aload_n 0, .iconst 3, .aload_n 0, .getfield 74, .bipush 16, .isub, .invokevirtual 98, .ireturn, .iload_n 1, .ldc 176, .aload_n 0, .getfield 38, .getfield 68, .isub, .if_icmp .le 17, .aload_n 0, .bipush 10, .aload_n 0, .getfield 74, .bipush 32, .isub, .invokevirtual 98, .ireturn, .aload_n 0, .getfield 77, .aload_n 0, .getfield 74, .isub, .bipush 8, .iload_n 1, .imul, .if_icmp .ge 13, .aload_n 0, .iconst 1, .aload_n 0, .getfield 77, .invokevirtual 98, .ireturn, .aload_n 0, .getfield 34, .getfield 144, .aload_n 0, .getfield 74, .bipush 8, .idiv, .aload_n 0, .getfield 38, .getfield 144, .aload_n 0, .getfield 38, .getfield 68, .iload_n 1, .invokestatic 177, .aload_n 0, .getfield 38, .dup, .getfield 68, .iload_n 1, .iadd, .putfield 68, .aload_n 0, .dup, .getfield 74, .bipush 8, .iload_n 1, .imul, .iadd, .putfield 74, .iconst 1, .ireturn])
def mUN_goToNextByte : xM := (⟨"RowPacker$Unpacker", "goToNextByte", "()V"⟩, prog_10_method_13_code, 1, none, 9,
  [.aload_n 0, .aload_n 0, .getfield 74, .bipush 7, .iadd, .bipush 8, .idiv, .bipush 8, .imul, .putfield 74, .return_])
def mUN_readSymbols : xM := (⟨"RowPacker$Unpacker", "readSymbols", "(LRowPacker$ReadCode;LRowPacker$ReadCode;)Z"⟩, prog_10_method_21_code, 6, (some .boolean), 9,
  [.iconst 0, .istore_n 3, .iload_n 3, .ldc 157, .if_icmp .ge 92, .aload_n 0, .getfield 74, .istore 4, .aload_n 0, .aload_n 1, .invokevirtual 201, .istore 5, .iload 5, .iconst (-1), .if_icmp .ne 5, .iconst 0, .ireturn, .iload 5, .sipush 256, .if_icmp .ne 5, .iconst 1, .ireturn, .iload 5, .sipush 257, .if_icmp .lt 17, .aload_n 0, .iload 5, .iload 4, .aload_n 2, .invokevirtual 205, .ifCond .ne 35, .iconst 0, .ireturn, .aload_n 0, .getfield 38, .getfield 68, .ldc 176, .if_icmp .ne 12, .aload_n 0, .bipush 10, .iload 4, .invokevirtual 98, .ireturn, .aload_n 0, .getfield 38, .iload 5, .invokevirtual 209, .iinc 3 1, .goto (-92), .aload_n 0, .iconst 1, .aload_n 0, .getfield 77, .invokevirtual 98, .ireturn])
def mUN_readSymbol : xM := (⟨"RowPacker$Unpacker", "readSymbol", "(LRowPacker$ReadCode;)I"⟩, prog_10_method_15_code, 9, (some .int), 9,
  [.aload_n 0, .getfield 74, .istore_n 2, .iconst 0, .istore_n 3, .iconst 0, .istore 4, .iconst 0, .istore 5, .aload_n 1, .getfield 148, .iconst 2, .if_icmp .ge 7, .iconst 1, .goto 5, .bipush 15, .istore 6, .iconst 1, .istore 7, .iload 7, .iload 6, .if_icmp .gt 118, .aload_n 0, .getfield 74, .aload_n 0, .getfield 77, .if_icmp .lt 15, .aload_n 0, .iconst 1, .aload_n 0, .getfield 77, .invokevirtual 98, .pop, .iconst (-1), .ireturn, .iconst 2, .iload_n 3, .imul, .aload_n 0, .getfield 34, .getfield 144, .aload_n 0, .getfield 74, .iconst 3, .ishr, .baload, .aload_n 0, .getfield 74, .bipush 7, .iand, .ishr, .iconst 1, .iand, .iadd, .istore_n 3, .aload_n 0, .dup, .getfield 74, .iconst 1, .iadd, .putfield 74, .aload_n 1, .getfield 151, .iload 7, .iaload, .istore 8, .iload_n 3, .iload 4, .isub, .iload 8, .if_icmp .ge 16, .aload_n 1, .getfield 154, .iload 5, .iload_n 3, .iadd, .iload 4, .isub, .iaload, .ireturn, .iload 5, .iload 8, .iadd, .istore 5, .iconst 2, .iload 4, .iload 8, .iadd, .imul, .istore 4, .iinc 7 1, .goto (-119), .aload_n 0, .bipush 8, .iload_n 2, .invokevirtual 98, .pop, .iconst (-1), .ireturn])
def mUN_readStretch : xM := (⟨"RowPacker$Unpacker", "readStretch", "(IILRowPacker$ReadCode;)Z"⟩, prog_10_method_22_code, 10, (some .boolean), 9,
  [.iload_n 1, .sipush 286, .if_icmp .lt 11, .aload_n 0, .bipush 8, .iload_n 2, .invokevirtual 98, .ireturn, .aload_n 0, .iload_n 1, .sipush 257, .isub, .invokestatic 213, .invokevirtual 111, .istore 4, .iload 4, .iconst (-1), .if_icmp .ne 5, .iconst 0, .ireturn, .aload_n 0, .getfield 74, .istore 5, .aload_n 0, .aload_n 3, .invokevirtual 201, .istore 6, .iload 6, .iconst (-1), .if_icmp .ne 5, .iconst 0, .ireturn, .iload 6, .bipush 30, .if_icmp .lt 12, .aload_n 0, .bipush 8, .iload 5, .invokevirtual 98, .ireturn, .aload_n 0, .iload 6, .invokestatic 216, .invokevirtual 111, .istore 7, .iload 7, .iconst (-1), .if_icmp .ne 5, .iconst 0, .ireturn, .iload_n 1, .sipush 257, .isub, .invokestatic 219, .iload 4, .iadd, .istore 8, .iload 6, .invokestatic 222, .iload 7, .iadd, .istore 9, .iload 9, .aload_n 0, .getfield 38, .getfield 68, .aload_n 0, .getfield 81, .isub, .if_icmp .le 12, .aload_n 0, .bipush 9, .iload 5, .invokevirtual 98, .ireturn, .iload 8, .ldc 176, .aload_n 0, .getfield 38, .getfield 68, .isub, .if_icmp .le 11, .aload_n 0, .bipush 10, .iload_n 2, .invokevirtual 98, .ireturn, .aload_n 0, .getfield 38, .iload 9, .iload 8, .invokevirtual 225, .aload_n 0, .getfield 41, .dup, .getfield 229, .iconst 1, .iadd, .putfield 229, .iconst 1, .ireturn])
def mUN_readCodes : xM := (⟨"RowPacker$Unpacker", "readCodes", "()Z"⟩, prog_10_method_18_code, 5, (some .boolean), 9,
  [.aload_n 0, .iconst 5, .invokevirtual 111, .istore_n 1, .iload_n 1, .iconst (-1), .if_icmp .ne 5, .iconst 0, .ireturn, .sipush 257, .iload_n 1, .iadd, .istore_n 2, .iload_n 2, .sipush 286, .if_icmp .le 15, .aload_n 0, .iconst 4, .aload_n 0, .getfield 74, .iconst 5, .isub, .invokevirtual 98, .ireturn, .aload_n 0, .iconst 5, .invokevirtual 111, .istore_n 3, .iload_n 3, .iconst (-1), .if_icmp .ne 5, .iconst 0, .ireturn, .iconst 1, .iload_n 3, .iadd, .istore 4, .iload 4, .bipush 30, .if_icmp .le 15, .aload_n 0, .iconst 4, .aload_n 0, .getfield 74, .iconst 5, .isub, .invokevirtual 98, .ireturn, .aload_n 0, .invokevirtual 183, .ifCond .eq 14, .aload_n 0, .iload_n 2, .iload 4, .iadd, .invokevirtual 186, .ifCond .ne 5, .iconst 0, .ireturn, .aload_n 0, .getfield 24, .aload_n 0, .getfield 30, .iconst 0, .iload_n 2, .invokevirtual 53, .aload_n 0, .getfield 27, .aload_n 0, .getfield 30, .iload_n 2, .iload 4, .invokevirtual 53, .aload_n 0, .getfield 24, .invokevirtual 189, .ifCond .eq 24, .aload_n 0, .getfield 30, .sipush 256, .iaload, .ifCond .eq 13, .aload_n 0, .getfield 27, .invokevirtual 192, .ifCond .ne 13, .aload_n 0, .iconst 5, .aload_n 0, .getfield 74, .invokevirtual 98, .ireturn, .iconst 1, .ireturn])
def mUN_readCodeOfLengths : xM := (⟨"RowPacker$Unpacker", "readCodeOfLengths", "()Z"⟩, prog_10_method_19_code, 4, (some .boolean), 9,
  [.aload_n 0, .iconst 4, .invokevirtual 111, .istore_n 1, .iload_n 1, .iconst (-1), .if_icmp .ne 5, .iconst 0, .ireturn, .aload_n 0, .getfield 30, .iconst 0, .bipush 19, .iconst 0, .invokestatic 195, .iconst 0, .istore_n 2, .iload_n 2, .iconst 4, .iload_n 1, .iadd, .if_icmp .ge 33, .aload_n 0, .iconst 3, .invokevirtual 111, .istore_n 3, .iload_n 3, .iconst (-1), .if_icmp .ne 5, .iconst 0, .ireturn, .aload_n 0, .getfield 30, .getstatic 198, .iload_n 2, .iaload, .iload_n 3, .iastore, .iinc 2 1, .goto (-34), .aload_n 0, .getfield 21, .aload_n 0, .getfield 30, .iconst 0, .bipush 19, .invokevirtual 53, .aload_n 0, .getfield 21, .invokevirtual 189, .ifCond .ne 15, .aload_n 0, .iconst 5, .aload_n 0, .getfield 74, .invokevirtual 98, .ifCond .eq 7, .iconst 1, .goto 4, .iconst 0, .ireturn])
def mAR_fill2 : xM := (⟨"java/util/Arrays", "fill", "([IIII)V"⟩, prog_31_method_104_code, 5, none, 17,
  [.aload_n 0, .arraylength, .iload_n 1, .iload_n 2, .invokestatic 13, .iload_n 1, .istore 4, .iload 4, .iload_n 2, .if_icmp .ge 14, .aload_n 0, .iload 4, .iload_n 3, .iastore, .iinc 4 1, .goto (-14), .return_])
def mAR_rangeCheck : xM := (⟨"java/util/Arrays", "rangeCheck", "(III)V"⟩, prog_31_method_30_code, 3, none, 17,
  [.iload_n 1, .iload_n 2, .if_icmp .le 44, .new 43, .dup, .new 45, .dup, .invokespecial 47, .ldc 48, .invokevirtual 50, .iload_n 1, .invokevirtual 54, .ldc 57, .invokevirtual 50, .iload_n 2, .invokevirtual 54, .ldc 59, .invokevirtual 50, .invokevirtual 61, .invokespecial 65, .athrow, .iload_n 1, .ifCond .ge 12, .new 68, .dup, .iload_n 1, .invokespecial 70, .athrow, .iload_n 2, .iload_n 0, .if_icmp .le 12, .new 68, .dup, .iload_n 2, .invokespecial 70, .athrow, .return_])
def mRC_isFull : xM := (⟨"RowPacker$ReadCode", "isFull", "()Z"⟩, prog_6_method_3_code, 3, (some .boolean), 5,
  [.iconst 0, .istore_n 1, .iconst 1, .istore_n 2, .iload_n 2, .bipush 15, .if_icmp .gt 23, .iload_n 1, .aload_n 0, .getfield 9, .iload_n 2, .iaload, .bipush 15, .iload_n 2, .isub, .ishl, .iadd, .istore_n 1, .iinc 2 1, .goto (-23), .iload_n 1, .ldc 31, .if_icmp .ne 7, .iconst 1, .goto 4, .iconst 0, .ireturn])
def mUN_readLengths : xM := (⟨"RowPacker$Unpacker", "readLengths", "(I)Z"⟩, prog_10_method_20_code, 8, (some .boolean), 9,
  [.iconst 0, .istore_n 2, .iconst 0, .istore_n 3, .iload_n 2, .iload_n 1, .if_icmp .ge 190, .iload_n 3, .sipush 316, .if_icmp .ge 183, .aload_n 0, .getfield 74, .istore 4, .aload_n 0, .aload_n 0, .getfield 21, .invokevirtual 201, .istore 5, .iload 5, .iconst (-1), .if_icmp .ne 5, .iconst 0, .ireturn, .iload 5, .bipush 16, .if_icmp .ge 17, .aload_n 0, .getfield 30, .iload_n 2, .iload 5, .iastore, .iinc 2 1, .goto 132, .iload 5, .bipush 16, .if_icmp .ne 16, .iload_n 2, .ifCond .ne 12, .aload_n 0, .bipush 6, .iload 4, .invokevirtual 98, .ireturn, .aload_n 0, .iload 5, .bipush 16, .if_icmp .ne 7, .iconst 2, .goto 16, .iload 5, .bipush 17, .if_icmp .ne 7, .iconst 3, .goto 5, .bipush 7, .invokevirtual 111, .istore 6, .iload 6, .iconst (-1), .if_icmp .ne 5, .iconst 0, .ireturn, .iload 6, .iload 5, .bipush 18, .if_icmp .ne 8, .bipush 11, .goto 4, .iconst 3, .iadd, .istore 7, .iload 7, .iload_n 1, .iload_n 2, .isub, .if_icmp .le 12, .aload_n 0, .bipush 7, .iload 4, .invokevirtual 98, .ireturn, .aload_n 0, .getfield 30, .iload_n 2, .iload_n 2, .iload 7, .iadd, .iload 5, .bipush 16, .if_icmp .ne 14, .aload_n 0, .getfield 30, .iload_n 2, .iconst 1, .isub, .iaload, .goto 4, .iconst 0, .invokestatic 195, .iload_n 2, .iload 7, .iadd, .istore_n 2, .iinc 3 1, .goto (-189), .iconst 1, .ireturn])
def mRC_servesDistances : xM := (⟨"RowPacker$ReadCode", "servesDistances", "()Z"⟩, prog_6_method_4_code, 1, (some .boolean), 5,
  [.aload_n 0, .getfield 27, .ifCond .eq 28, .aload_n 0, .getfield 27, .iconst 1, .if_icmp .ne 13, .aload_n 0, .getfield 9, .iconst 1, .iaload, .iconst 1, .if_icmp .eq 10, .aload_n 0, .invokevirtual 32, .ifCond .eq 7, .iconst 1, .goto 4, .iconst 0, .ireturn])
def mUN_readTail : xM := (⟨"RowPacker$Unpacker", "readTail", "(I)Z"⟩, prog_10_method_8_code, 2, (some .boolean), 9,
  [.iload_n 1, .ifCond .ne 5, .iconst 1, .ireturn, .iload_n 1, .iconst 1, .if_icmp .ne 30, .aload_n 0, .aload_n 0, .getfield 45, .aload_n 0, .getfield 38, .iconst 0, .aload_n 0, .getfield 38, .getfield 68, .invokevirtual 134, .iconst 1, .bipush 13, .invokevirtual 137, .ireturn, .aload_n 0, .aload_n 0, .getfield 45, .aload_n 0, .getfield 38, .aload_n 0, .getfield 81, .aload_n 0, .getfield 38, .getfield 68, .invokevirtual 126, .iconst 0, .bipush 13, .invokevirtual 137, .ifCond .eq 30, .aload_n 0, .aload_n 0, .getfield 38, .getfield 68, .aload_n 0, .getfield 81, .isub, .i2l, .iconst 0, .bipush 14, .invokevirtual 137, .ifCond .eq 7, .iconst 1, .goto 4, .iconst 0, .ireturn])
def mUN_readFourThatAre : xM := (⟨"RowPacker$Unpacker", "readFourThatAre", "(JZI)Z"⟩, prog_10_method_9_code, 9, (some .boolean), 9,
  [.aload_n 0, .getfield 77, .aload_n 0, .getfield 74, .isub, .bipush 32, .if_icmp .ge 13, .aload_n 0, .iconst 1, .aload_n 0, .getfield 77, .invokevirtual 98, .ireturn, .lconst 0, .lstore 5, .iconst 0, .istore 7, .iload 7, .iconst 4, .if_icmp .ge 57, .iload_n 3, .ifCond .eq 14, .bipush 24, .bipush 8, .iload 7, .imul, .isub, .goto 8, .bipush 8, .iload 7, .imul, .istore 8, .lload 5, .aload_n 0, .getfield 34, .aload_n 0, .getfield 74, .bipush 8, .idiv, .iload 7, .iadd, .invokevirtual 141, .i2l, .iload 8, .lshl, .lor, .lstore 5, .iinc 7 1, .goto (-57), .lload 5, .lload_n 1, .lcmp, .ifCond .eq 14, .aload_n 0, .iload 4, .aload_n 0, .getfield 74, .invokevirtual 98, .ireturn, .aload_n 0, .dup, .getfield 74, .bipush 32, .iadd, .putfield 74, .iconst 1, .ireturn])
def mLA_out : xM := (⟨"RowPackerLaw", "out", "(LRowPacker;I[J)I"⟩, method_9_code, 4, (some .int), 16,
  [.aload_n 2, .iconst 0, .aload_n 0, .iload_n 1, .invokevirtual 37, .i2l, .lastore, .goto 6, .astore_n 3, .iconst 1, .ireturn, .iconst 0, .ireturn])
def mRP_out : xM := (⟨"RowPacker", "out", "(I)I"⟩, prog_1_method_11_code, 2, (some .int), 0,
  [.iload_n 1, .ifCond .lt 14, .iload_n 1, .aload_n 0, .getfield 20, .getfield 53, .if_icmp .lt 11, .new 70, .dup, .invokespecial 72, .athrow, .aload_n 0, .getfield 20, .iload_n 1, .invokevirtual 77, .ireturn])
def mLA_turn : xM := (⟨"RowPackerLaw", "turn", "(LRowPacker;[J)I"⟩, method_10_code, 3, (some .int), 16,
  [.aload_n 1, .iconst 0, .aload_n 0, .invokevirtual 40, .i2l, .lastore, .goto 6, .astore_n 2, .iconst 1, .ireturn, .iconst 0, .ireturn])
def mRP_turn : xM := (⟨"RowPacker", "turn", "()I"⟩, prog_1_method_12_code, 1, (some .int), 0,
  [.aload_n 0, .getfield 20, .getfield 53, .ldc 11, .if_icmp .le 11, .new 57, .dup, .invokespecial 59, .athrow, .aload_n 0, .getfield 20, .getfield 73, .iconst 0, .aload_n 0, .getfield 15, .getfield 73, .iconst 0, .aload_n 0, .getfield 20, .getfield 53, .invokestatic 93, .aload_n 0, .getfield 15, .aload_n 0, .getfield 20, .getfield 53, .putfield 53, .aload_n 0, .getfield 15, .getfield 53, .ireturn])
def mLA_sum : xM := (⟨"RowPackerLaw", "sum", "(LRowPacker;I[J)I"⟩, method_11_code, 4, (some .int), 16,
  [.aload_n 2, .iconst 0, .aload_n 0, .iload_n 1, .invokevirtual 44, .lastore, .goto 6, .astore_n 3, .iconst 1, .ireturn, .iconst 0, .ireturn])
def mRP_sum : xM := (⟨"RowPacker", "sum", "(I)J"⟩, prog_1_method_13_code, 2, (some .long), 0,
  [.iload_n 1, .ifCond .lt 8, .iload_n 1, .iconst 1, .if_icmp .le 11, .new 63, .dup, .invokespecial 65, .athrow, .iload_n 1, .ifCond .ne 25, .aload_n 0, .getfield 33, .aload_n 0, .getfield 15, .iconst 0, .aload_n 0, .getfield 15, .getfield 53, .invokevirtual 99, .goto 22, .aload_n 0, .getfield 33, .aload_n 0, .getfield 15, .iconst 0, .aload_n 0, .getfield 15, .getfield 53, .invokevirtual 103, .lreturn])
def mLA_block : xM := (⟨"RowPackerLaw", "block", "(LRowPacker;II[J)I"⟩, method_12_code, 5, (some .int), 16,
  [.aload_n 3, .iconst 0, .aload_n 0, .iload_n 1, .iload_n 2, .invokevirtual 48, .i2l, .lastore, .goto 11, .astore 4, .iconst 1, .ireturn, .astore 4, .iconst 2, .ireturn, .iconst 0, .ireturn])
def mRP_block : xM := (⟨"RowPacker", "block", "(II)I"⟩, prog_1_method_15_code, 3, (some .int), 0,
  [.iload_n 1, .ifCond .lt 20, .iload_n 1, .aload_n 0, .getfield 26, .getfield 106, .if_icmp .ge 9, .iload_n 1, .bipush 64, .if_icmp .lt 11, .new 70, .dup, .invokespecial 72, .athrow, .iload_n 2, .ifCond .lt 8, .iload_n 2, .iconst 4, .if_icmp .lt 11, .new 63, .dup, .invokespecial 65, .athrow, .aload_n 0, .getfield 26, .getfield 109, .iconst 4, .iload_n 1, .imul, .iload_n 2, .iadd, .iaload, .ireturn])
def mMO_init : xM := (⟨"RowPackerModel", "<init>", "()V"⟩, prog_14_method_1_code, 1, none, 12,
  [.aload_n 0, .invokespecial 1, .aload_n 0, .ldc 7, .newarray .byte, .putfield 8, .aload_n 0, .ldc 14, .newarray .byte, .putfield 15, .aload_n 0, .iconst (-1), .putfield 18, .aload_n 0, .bipush 64, .newarray .int, .putfield 22, .aload_n 0, .bipush 64, .newarray .int, .putfield 26, .aload_n 0, .bipush 64, .newarray .int, .putfield 29, .aload_n 0, .bipush 64, .newarray .int, .putfield 32, .aload_n 0, .bipush 48, .newarray .int, .putfield 35, .aload_n 0, .sipush 600, .newarray .int, .putfield 38, .aload_n 0, .sipush 600, .newarray .int, .putfield 41, .aload_n 0, .sipush 400, .newarray .int, .putfield 44, .aload_n 0, .sipush 1024, .newarray .int, .putfield 47, .aload_n 0, .sipush 1024, .newarray .int, .putfield 50, .aload_n 0, .sipush 600, .newarray .long, .putfield 53, .aload_n 0, .sipush 600, .newarray .int, .putfield 57, .aload_n 0, .sipush 9600, .newarray .long, .putfield 60, .aload_n 0, .sipush 9600, .newarray .boolean, .putfield 63, .aload_n 0, .bipush 16, .newarray .int, .putfield 67, .aload_n 0, .sipush 300, .newarray .int, .putfield 70, .aload_n 0, .sipush 400, .newarray .int, .putfield 73, .aload_n 0, .sipush 400, .newarray .int, .putfield 76, .return_])
def mMO_thrown : xM := (⟨"RowPackerModel", "thrown", "()I"⟩, prog_14_method_2_code, 1, (some .int), 12,
  [.aload_n 0, .getfield 79, .ireturn])
def mMO_feed : xM := (⟨"RowPackerModel", "feed", "(IIIII)I"⟩, prog_14_method_4_code, 6, (some .int), 12,
  [.aload_n 0, .aload_n 0, .getfield 82, .bipush 20, .iadd, .ldc 7, .if_icmp .le 7, .iconst 1, .goto 4, .iconst 0, .putfield 79, .aload_n 0, .getfield 79, .ifCond .le 5, .iconst 0, .ireturn, .aload_n 0, .iload_n 1, .invokevirtual 85, .aload_n 0, .iload_n 2, .invokevirtual 85, .aload_n 0, .iload_n 3, .invokevirtual 85, .aload_n 0, .iload 4, .invokevirtual 85, .aload_n 0, .iload 5, .invokevirtual 85, .aload_n 0, .getfield 82, .ireturn])
def mMO_type : xM := (⟨"RowPackerModel", "type", "(I)V"⟩, prog_14_method_3_code, 3, none, 12,
  [.bipush 24, .istore_n 2, .iload_n 2, .ifCond .lt 32, .aload_n 0, .getfield 8, .aload_n 0, .getfield 82, .iload_n 1, .iload_n 2, .ishr, .i2b, .bastore, .aload_n 0, .dup, .getfield 82, .iconst 1, .iadd, .putfield 82, .iinc 2 (-8), .goto (-30), .return_])
def mMO_end : xM := (⟨"RowPackerModel", "end", "(I)V"⟩, prog_14_method_5_code, 2, none, 12,
  [.aload_n 0, .iload_n 1, .ifCond .lt 11, .iload_n 1, .aload_n 0, .getfield 82, .if_icmp .le 7, .iconst 1, .goto 4, .iconst 0, .putfield 79, .aload_n 0, .getfield 79, .ifCond .ne 8, .aload_n 0, .iload_n 1, .putfield 82, .return_])
def mMO_again : xM := (⟨"RowPackerModel", "again", "(II)I"⟩, prog_14_method_6_code, 4, (some .int), 12,
  [.aload_n 0, .iload_n 2, .ifCond .lt 16, .iload_n 1, .iconst 1, .if_icmp .lt 11, .iload_n 1, .aload_n 0, .getfield 82, .if_icmp .le 7, .iconst 1, .goto 19, .iload_n 2, .ldc 7, .aload_n 0, .getfield 82, .isub, .if_icmp .le 7, .iconst 2, .goto 4, .iconst 0, .putfield 79, .aload_n 0, .getfield 79, .ifCond .le 5, .iconst 0, .ireturn, .iconst 0, .istore_n 3, .iload_n 3, .iload_n 2, .if_icmp .ge 39, .aload_n 0, .getfield 8, .aload_n 0, .getfield 82, .aload_n 0, .getfield 8, .aload_n 0, .getfield 82, .iload_n 1, .isub, .baload, .bastore, .aload_n 0, .dup, .getfield 82, .iconst 1, .iadd, .putfield 82, .iinc 3 1, .goto (-38), .aload_n 0, .getfield 82, .ireturn])
def mMO_change : xM := (⟨"RowPackerModel", "change", "(II)I"⟩, prog_14_method_7_code, 3, (some .int), 12,
  [.aload_n 0, .iload_n 1, .ifCond .lt 11, .iload_n 1, .aload_n 0, .getfield 82, .if_icmp .lt 7, .iconst 1, .goto 19, .iload_n 2, .ifCond .lt 10, .iload_n 2, .sipush 255, .if_icmp .le 7, .iconst 2, .goto 4, .iconst 0, .putfield 79, .aload_n 0, .getfield 79, .ifCond .le 5, .iconst 0, .ireturn, .aload_n 0, .getfield 8, .iload_n 1, .aload_n 0, .getfield 8, .iload_n 1, .baload, .iload_n 2, .ixor, .i2b, .bastore, .aload_n 0, .getfield 8, .iload_n 1, .baload, .sipush 255, .iand, .ireturn])
def mMO_sum : xM := (⟨"RowPackerModel", "sum", "(I)J"⟩, prog_14_method_10_code, 2, (some .long), 12,
  [.aload_n 0, .iload_n 1, .ifCond .lt 8, .iload_n 1, .iconst 1, .if_icmp .le 7, .iconst 1, .goto 4, .iconst 0, .putfield 79, .aload_n 0, .getfield 79, .ifCond .le 7, .lconst 0, .goto 34, .iload_n 1, .ifCond .ne 18, .aload_n 0, .getfield 8, .iconst 0, .aload_n 0, .getfield 82, .invokestatic 101, .goto 15, .aload_n 0, .getfield 8, .iconst 0, .aload_n 0, .getfield 82, .invokestatic 105, .lreturn])
def mMO_sumA : xM := (⟨"RowPackerModel", "sumA", "([BII)J"⟩, prog_14_method_8_code, 8, (some .long), 12,
  [.lconst 1, .lstore_n 3, .lconst 0, .lstore 5, .iload_n 1, .istore 7, .iload 7, .iload_n 2, .if_icmp .ge 35, .lload_n 3, .aload_n 0, .iload 7, .baload, .sipush 255, .iand, .i2l, .ladd, .ldc2_w 89, .lrem, .lstore_n 3, .lload 5, .lload_n 3, .ladd, .ldc2_w 89, .lrem, .lstore 5, .iinc 7 1, .goto (-35), .ldc2_w 91, .lload 5, .lmul, .lload_n 3, .ladd, .lreturn])
def mMO_sumB : xM := (⟨"RowPackerModel", "sumB", "([BII)J"⟩, prog_14_method_9_code, 7, (some .long), 12,
  [.ldc2_w 93, .lstore_n 3, .iload_n 1, .istore 5, .iload 5, .iload_n 2, .if_icmp .ge 65, .lload_n 3, .aload_n 0, .iload 5, .baload, .i2l, .ldc2_w 95, .land, .lxor, .lstore_n 3, .iconst 0, .istore 6, .iload 6, .bipush 8, .if_icmp .ge 37, .lload_n 3, .ldc2_w 97, .lrem, .lconst 1, .lcmp, .ifCond .ne 15, .lload_n 3, .ldc2_w 97, .ldiv, .ldc2_w 99, .lxor, .goto 8, .lload_n 3, .ldc2_w 97, .ldiv, .lstore_n 3, .iinc 6 1, .goto (-38), .iinc 5 1, .goto (-65), .lload_n 3, .ldc2_w 93, .lxor, .lreturn])
def mMO_unpack : xM := (⟨"RowPackerModel", "unpack", "(I)I"⟩, prog_14_method_43_code, 2, (some .int), 12,
  [.aload_n 0, .iload_n 1, .ifCond .lt 8, .iload_n 1, .iconst 2, .if_icmp .le 7, .iconst 1, .goto 4, .iconst 0, .putfield 79, .aload_n 0, .getfield 79, .ifCond .le 5, .iconst 0, .ireturn, .aload_n 0, .invokevirtual 219, .iload_n 1, .ifCond .ne 18, .aload_n 0, .invokevirtual 193, .aload_n 0, .invokevirtual 167, .aload_n 0, .invokevirtual 198, .goto 19, .iload_n 1, .iconst 1, .if_icmp .ne 10, .aload_n 0, .invokevirtual 222, .goto 7, .aload_n 0, .invokevirtual 225, .aload_n 0, .aload_n 0, .getfield 115, .ifCond .le 7, .iconst 0, .goto 7, .aload_n 0, .getfield 146, .putfield 146, .aload_n 0, .getfield 115, .ifCond .le 7, .iconst (-1), .goto 7, .aload_n 0, .getfield 146, .ireturn])
def mMO_clear : xM := (⟨"RowPackerModel", "clear", "()V"⟩, prog_14_method_42_code, 1, none, 12,
  [.aload_n 0, .iconst 0, .putfield 146, .aload_n 0, .iconst 0, .putfield 115, .aload_n 0, .iconst (-1), .putfield 18, .aload_n 0, .iconst 0, .putfield 171, .aload_n 0, .iconst 0, .putfield 164, .aload_n 0, .iconst 0, .putfield 118, .aload_n 0, .iconst 0, .putfield 152, .return_])
def mMO_readBlocks : xM := (⟨"RowPackerModel", "readBlocks", "()V"⟩, prog_14_method_32_code, 7, none, 12,
  [.iconst 1, .istore_n 1, .iload_n 1, .ifCond .eq 173, .aload_n 0, .getfield 115, .ifCond .ne 166, .aload_n 0, .getfield 118, .istore_n 2, .aload_n 0, .getfield 146, .istore_n 3, .aload_n 0, .invokevirtual 125, .ifCond .ne 7, .iconst 1, .goto 4, .iconst 0, .istore_n 1, .aload_n 0, .getfield 118, .istore 4, .aload_n 0, .iconst 2, .invokevirtual 133, .istore 5, .aload_n 0, .getfield 115, .ifCond .ne 16, .iload 5, .iconst 3, .if_icmp .ne 10, .aload_n 0, .iconst 2, .iload 4, .invokevirtual 121, .aload_n 0, .getfield 115, .ifCond .ne 15, .iload 5, .ifCond .ne 10, .aload_n 0, .invokevirtual 174, .goto 62, .aload_n 0, .getfield 115, .ifCond .ne 55, .iconst 2, .istore 6, .iload 5, .iconst 1, .if_icmp .ne 34, .aload_n 0, .invokevirtual 177, .aload_n 0, .iconst 0, .sipush 288, .iconst 0, .invokevirtual 139, .istore 6, .aload_n 0, .sipush 400, .bipush 32, .bipush 16, .invokevirtual 139, .istore 6, .goto 9, .aload_n 0, .invokevirtual 180, .istore 6, .aload_n 0, .iload 6, .invokevirtual 183, .aload_n 0, .getfield 115, .ifCond .ne 22, .aload_n 0, .iload 5, .iload_n 2, .aload_n 0, .getfield 118, .iload_n 2, .isub, .aload_n 0, .getfield 146, .iload_n 3, .isub, .invokevirtual 186, .goto (-171), .return_])
def mMO_bit : xM := (⟨"RowPackerModel", "bit", "()I"⟩, prog_14_method_19_code, 2, (some .int), 12,
  [.aload_n 0, .getfield 118, .bipush 8, .aload_n 0, .getfield 82, .imul, .if_icmp .lt 17, .aload_n 0, .iconst 1, .bipush 8, .aload_n 0, .getfield 82, .imul, .invokevirtual 121, .iconst 0, .ireturn, .aload_n 0, .getfield 8, .aload_n 0, .getfield 118, .bipush 8, .idiv, .baload, .aload_n 0, .getfield 118, .bipush 8, .irem, .ishr, .iconst 1, .iand, .istore_n 1, .aload_n 0, .dup, .getfield 118, .iconst 1, .iadd, .putfield 118, .iload_n 1, .ireturn])
def mMO_fail : xM := (⟨"RowPackerModel", "fail", "(II)V"⟩, prog_14_method_18_code, 3, none, 12,
  [.aload_n 0, .getfield 115, .ifCond .ne 13, .aload_n 0, .iload_n 1, .putfield 115, .aload_n 0, .iload_n 2, .putfield 18, .return_])
def mMO_number : xM := (⟨"RowPackerModel", "number", "(I)I"⟩, prog_14_method_20_code, 4, (some .int), 12,
  [.iconst 0, .istore_n 2, .iconst 0, .istore_n 3, .iload_n 3, .iload_n 1, .if_icmp .ge 25, .aload_n 0, .getfield 115, .ifCond .ne 18, .iload_n 2, .aload_n 0, .invokevirtual 125, .iload_n 3, .ishl, .ior, .istore_n 2, .iinc 3 1, .goto (-24), .iload_n 2, .ireturn])
def mMO_readPlain : xM := (⟨"RowPackerModel", "readPlain", "()V"⟩, prog_14_method_30_code, 7, none, 12,
  [.aload_n 0, .invokevirtual 167, .aload_n 0, .getfield 118, .istore_n 1, .aload_n 0, .bipush 16, .invokevirtual 133, .istore_n 2, .aload_n 0, .getfield 118, .istore_n 3, .aload_n 0, .bipush 16, .invokevirtual 133, .istore 4, .aload_n 0, .getfield 115, .ifCond .ne 18, .iload 4, .ldc 170, .iload_n 2, .isub, .if_icmp .eq 9, .aload_n 0, .iconst 3, .iload_n 3, .invokevirtual 121, .aload_n 0, .getfield 115, .ifCond .ne 21, .iload_n 2, .ldc 14, .aload_n 0, .getfield 146, .isub, .if_icmp .le 10, .aload_n 0, .bipush 10, .iload_n 1, .invokevirtual 121, .iconst 0, .istore 5, .iload 5, .iload_n 2, .if_icmp .ge 37, .aload_n 0, .getfield 115, .ifCond .ne 30, .aload_n 0, .bipush 8, .invokevirtual 133, .istore 6, .aload_n 0, .getfield 115, .ifCond .ne 9, .aload_n 0, .iload 6, .invokevirtual 155, .iinc 5 1, .goto (-37), .return_])
def mMO_toByte : xM := (⟨"RowPackerModel", "toByte", "()V"⟩, prog_14_method_21_code, 1, none, 12,
  [.aload_n 0, .aload_n 0, .getfield 118, .bipush 7, .iadd, .bipush 8, .idiv, .bipush 8, .imul, .putfield 118, .return_])
def mMO_put : xM := (⟨"RowPackerModel", "put", "(I)V"⟩, prog_14_method_27_code, 2, none, 12,
  [.aload_n 0, .getfield 15, .aload_n 0, .getfield 146, .iload_n 1, .i2b, .bastore, .aload_n 0, .dup, .getfield 146, .iconst 1, .iadd, .putfield 146, .return_])
def mMO_plainLengths : xM := (⟨"RowPackerModel", "plainLengths", "()V"⟩, prog_14_method_24_code, 2, none, 12,
  [.iconst 0, .istore_n 1, .iload_n 1, .sipush 288, .if_icmp .ge 53, .aload_n 0, .getfield 41, .iload_n 1, .iload_n 1, .sipush 144, .if_icmp .ge 8, .bipush 8, .goto 29, .iload_n 1, .sipush 256, .if_icmp .ge 8, .bipush 9, .goto 17, .iload_n 1, .sipush 280, .if_icmp .ge 8, .bipush 7, .goto 5, .bipush 8, .iastore, .iinc 1 1, .goto (-54), .iconst 0, .istore_n 1, .iload_n 1, .bipush 32, .if_icmp .ge 20, .aload_n 0, .getfield 41, .sipush 400, .iload_n 1, .iadd, .iconst 5, .iastore, .iinc 1 1, .goto (-20), .return_])
def mMO_prepare : xM := (⟨"RowPackerModel", "prepare", "(III)I"⟩, prog_14_method_22_code, 7, (some .int), 12,
  [.iconst 0, .istore 4, .iload 4, .bipush 16, .if_icmp .ge 19, .aload_n 0, .getfield 35, .iload_n 3, .iload 4, .iadd, .iconst 0, .iastore, .iinc 4 1, .goto (-20), .iconst 0, .istore 4, .iload 4, .iload_n 2, .if_icmp .ge 29, .aload_n 0, .getfield 35, .iload_n 3, .aload_n 0, .getfield 41, .iload_n 1, .iload 4, .iadd, .iaload, .iadd, .dup2, .iaload, .iconst 1, .iadd, .iastore, .iinc 4 1, .goto (-29), .iload_n 1, .istore 4, .iconst 1, .istore 5, .iload 5, .bipush 16, .if_icmp .ge 50, .iconst 0, .istore 6, .iload 6, .iload_n 2, .if_icmp .ge 35, .aload_n 0, .getfield 41, .iload_n 1, .iload 6, .iadd, .iaload, .iload 5, .if_icmp .ne 15, .aload_n 0, .getfield 38, .iload 4, .iload 6, .iastore, .iinc 4 1, .iinc 6 1, .goto (-35), .iinc 5 1, .goto (-51), .iconst 0, .istore 5, .iconst 1, .istore 6, .iload 6, .bipush 16, .if_icmp .ge 29, .iload 5, .aload_n 0, .getfield 35, .iload_n 3, .iload 6, .iadd, .iaload, .bipush 15, .iload 6, .isub, .ishl, .iadd, .istore 5, .iinc 6 1, .goto (-30), .iload 5, .ldc 7, .if_icmp .ne 7, .iconst 2, .goto 37, .iload 5, .ifCond .ne 7, .iconst 0, .goto 28, .iload 5, .sipush 16384, .if_icmp .ne 19, .aload_n 0, .getfield 35, .iload_n 3, .iconst 1, .iadd, .iaload, .iconst 1, .if_icmp .ne 7, .iconst 1, .goto 4, .iconst 3, .ireturn])
def mMO_readCodes : xM := (⟨"RowPackerModel", "readCodes", "()I"⟩, prog_14_method_26_code, 7, (some .int), 12,
  [.aload_n 0, .getfield 118, .istore_n 1, .sipush 257, .aload_n 0, .iconst 5, .invokevirtual 133, .iadd, .istore_n 2, .aload_n 0, .getfield 115, .ifCond .ne 16, .iload_n 2, .sipush 286, .if_icmp .le 9, .aload_n 0, .iconst 4, .iload_n 1, .invokevirtual 121, .aload_n 0, .getfield 118, .istore_n 1, .iconst 1, .aload_n 0, .iconst 5, .invokevirtual 133, .iadd, .istore_n 3, .aload_n 0, .getfield 115, .ifCond .ne 15, .iload_n 3, .bipush 30, .if_icmp .le 9, .aload_n 0, .iconst 4, .iload_n 1, .invokevirtual 121, .iconst 4, .aload_n 0, .iconst 4, .invokevirtual 133, .iadd, .istore 4, .iconst 0, .istore 5, .iload 5, .bipush 19, .if_icmp .ge 21, .aload_n 0, .getfield 41, .sipush 500, .iload 5, .iadd, .iconst 0, .iastore, .iinc 5 1, .goto (-22), .iconst 0, .istore 5, .iload 5, .iload 4, .if_icmp .ge 35, .aload_n 0, .getfield 115, .ifCond .ne 28, .aload_n 0, .getfield 41, .sipush 500, .iload 5, .invokestatic 136, .iadd, .aload_n 0, .iconst 3, .invokevirtual 133, .iastore, .iinc 5 1, .goto (-36), .aload_n 0, .getfield 115, .ifCond .le 5, .iconst 0, .ireturn, .aload_n 0, .sipush 500, .bipush 19, .bipush 32, .invokevirtual 139, .iconst 2, .if_icmp .eq 14, .aload_n 0, .iconst 5, .aload_n 0, .getfield 118, .invokevirtual 121, .iconst 0, .ireturn, .aload_n 0, .iload_n 2, .iload_n 3, .iadd, .invokevirtual 143, .aload_n 0, .getfield 115, .ifCond .le 5, .iconst 0, .ireturn, .iconst 0, .istore 5, .iload 5, .iload_n 2, .if_icmp .ge 23, .aload_n 0, .getfield 41, .iload 5, .aload_n 0, .getfield 44, .iload 5, .iaload, .iastore, .iinc 5 1, .goto (-23), .iconst 0, .istore 5, .iload 5, .iload_n 3, .if_icmp .ge 29, .aload_n 0, .getfield 41, .sipush 400, .iload 5, .iadd, .aload_n 0, .getfield 44, .iload_n 2, .iload 5, .iadd, .iaload, .iastore, .iinc 5 1, .goto (-29), .aload_n 0, .iconst 0, .iload_n 2, .iconst 0, .invokevirtual 139, .istore 5, .aload_n 0, .sipush 400, .iload_n 3, .bipush 16, .invokevirtual 139, .istore 6, .iload 5, .iconst 2, .if_icmp .ne 20, .aload_n 0, .getfield 41, .sipush 256, .iaload, .ifCond .eq 9, .iload 6, .iconst 3, .if_icmp .ne 12, .aload_n 0, .iconst 5, .aload_n 0, .getfield 118, .invokevirtual 121, .iload 6, .ireturn])
def mMO_orderOf : xM := (⟨"RowPackerModel", "orderOf", "(I)I"⟩, prog_14_method_17_code, 1, (some .int), 12,
  [.iload_n 0, .iconst 3, .if_icmp .ge 10, .bipush 16, .iload_n 0, .iadd, .goto 37, .iload_n 0, .iconst 3, .if_icmp .ne 7, .iconst 0, .goto 28, .iload_n 0, .iconst 2, .irem, .ifCond .ne 14, .bipush 8, .iload_n 0, .iconst 4, .isub, .iconst 2, .idiv, .iadd, .goto 11, .bipush 7, .iload_n 0, .iconst 5, .isub, .iconst 2, .idiv, .isub, .ireturn])
def mMO_readRow : xM := (⟨"RowPackerModel", "readRow", "(I)V"⟩, prog_14_method_25_code, 8, none, 12,
  [.iconst 0, .istore_n 2, .iload_n 2, .iload_n 1, .if_icmp .ge 185, .aload_n 0, .getfield 115, .ifCond .ne 178, .aload_n 0, .getfield 118, .istore_n 3, .aload_n 0, .sipush 500, .bipush 32, .invokevirtual 129, .istore 4, .iconst 1, .istore 5, .iload 4, .istore 6, .iload 4, .bipush 16, .if_icmp .ne 51, .aload_n 0, .getfield 115, .ifCond .ne 14, .iload_n 2, .ifCond .ne 10, .aload_n 0, .bipush 6, .iload_n 3, .invokevirtual 121, .iload_n 2, .ifCond .ne 7, .iconst 0, .goto 11, .aload_n 0, .getfield 44, .iload_n 2, .iconst 1, .isub, .iaload, .istore 6, .iconst 3, .aload_n 0, .iconst 2, .invokevirtual 133, .iadd, .istore 5, .goto 41, .iload 4, .bipush 16, .if_icmp .le 34, .iconst 0, .istore 6, .iload 4, .bipush 17, .if_icmp .ne 13, .iconst 3, .aload_n 0, .iconst 3, .invokevirtual 133, .iadd, .goto 12, .bipush 11, .aload_n 0, .bipush 7, .invokevirtual 133, .iadd, .istore 5, .aload_n 0, .getfield 115, .ifCond .ne 18, .iload 5, .iload_n 1, .iload_n 2, .isub, .if_icmp .le 10, .aload_n 0, .bipush 7, .iload_n 3, .invokevirtual 121, .iconst 0, .istore 7, .iload 7, .iload 5, .if_icmp .ge 27, .aload_n 0, .getfield 115, .ifCond .ne 20, .aload_n 0, .getfield 44, .iload_n 2, .iload 6, .iastore, .iinc 2 1, .iinc 7 1, .goto (-28), .goto (-184), .return_])
def mMO_symbol : xM := (⟨"RowPackerModel", "symbol", "(II)I"⟩, prog_14_method_23_code, 7, (some .int), 12,
  [.iconst 0, .istore_n 3, .iconst 0, .istore 4, .iconst 0, .istore 5, .iconst 1, .istore 6, .iload 6, .bipush 16, .if_icmp .ge 101, .aload_n 0, .getfield 115, .ifCond .ne 94, .iconst 2, .iload_n 3, .imul, .aload_n 0, .invokevirtual 125, .iadd, .istore_n 3, .iconst 2, .iload 4, .imul, .istore 4, .iload_n 3, .iload 4, .isub, .aload_n 0, .getfield 35, .iload_n 2, .iload 6, .iadd, .iaload, .if_icmp .ge 29, .aload_n 0, .getfield 115, .ifCond .le 7, .iconst 0, .goto 17, .aload_n 0, .getfield 38, .iload_n 1, .iload 5, .iadd, .iload_n 3, .iadd, .iload 4, .isub, .iaload, .ireturn, .iload 5, .aload_n 0, .getfield 35, .iload_n 2, .iload 6, .iadd, .iaload, .iadd, .istore 5, .iload 4, .aload_n 0, .getfield 35, .iload_n 2, .iload 6, .iadd, .iaload, .iadd, .istore 4, .iinc 6 1, .goto (-102), .iconst 0, .ireturn])
def mMO_readSymbols : xM := (⟨"RowPackerModel", "readSymbols", "(I)V"⟩, prog_14_method_29_code, 8, none, 12,
  [.iconst 1, .istore_n 2, .iload_n 2, .ifCond .eq 245, .aload_n 0, .getfield 115, .ifCond .ne 238, .aload_n 0, .getfield 118, .istore_n 3, .aload_n 0, .iconst 0, .iconst 0, .invokevirtual 129, .istore 4, .aload_n 0, .getfield 115, .ifCond .ne 18, .iload 4, .sipush 285, .if_icmp .le 10, .aload_n 0, .bipush 8, .iload_n 3, .invokevirtual 121, .iload 4, .sipush 256, .if_icmp .eq 14, .aload_n 0, .getfield 115, .ifCond .ne 7, .iconst 1, .goto 4, .iconst 0, .istore_n 2, .iload_n 2, .ifCond .eq 39, .iload 4, .sipush 256, .if_icmp .ge 31, .aload_n 0, .getfield 146, .ldc 14, .if_icmp .ne 13, .aload_n 0, .bipush 10, .iload_n 3, .invokevirtual 121, .goto 148, .aload_n 0, .iload 4, .invokevirtual 155, .goto 139, .iload_n 2, .ifCond .eq 135, .iload 4, .sipush 257, .isub, .invokestatic 108, .aload_n 0, .iload 4, .sipush 257, .isub, .invokestatic 158, .invokevirtual 133, .iadd, .istore 5, .aload_n 0, .getfield 115, .ifCond .le 7, .iconst 0, .goto 8, .aload_n 0, .iload_n 1, .invokevirtual 161, .istore 6, .aload_n 0, .getfield 115, .ifCond .ne 22, .iload 5, .ldc 14, .aload_n 0, .getfield 146, .isub, .if_icmp .le 10, .aload_n 0, .bipush 10, .iload_n 3, .invokevirtual 121, .iconst 0, .istore 7, .iload 7, .iload 5, .if_icmp .ge 32, .aload_n 0, .getfield 115, .ifCond .ne 25, .aload_n 0, .aload_n 0, .getfield 15, .aload_n 0, .getfield 146, .iload 6, .isub, .baload, .invokevirtual 155, .iinc 7 1, .goto (-33), .aload_n 0, .aload_n 0, .getfield 115, .ifCond .ne 12, .aload_n 0, .getfield 164, .iconst 1, .iadd, .goto 7, .aload_n 0, .getfield 164, .putfield 164, .goto (-243), .return_])
def mMO_leastLength : xM := (⟨"RowPackerModel", "leastLength", "(I)I"⟩, prog_14_method_11_code, 1, (some .int), 12,
  [.iload_n 0, .bipush 8, .if_icmp .ge 9, .iconst 3, .iload_n 0, .iadd, .goto 30, .iload_n 0, .bipush 28, .if_icmp .ne 9, .sipush 258, .goto 18, .iconst 4, .iload_n 0, .iconst 4, .irem, .iadd, .iconst 1, .iload_n 0, .iconst 4, .idiv, .iconst 1, .isub, .ishl, .imul, .iconst 3, .iadd, .ireturn])
def mMO_lengthBits : xM := (⟨"RowPackerModel", "lengthBits", "(I)I"⟩, prog_14_method_12_code, 1, (some .int), 12,
  [.iload_n 0, .bipush 8, .if_icmp .lt 9, .iload_n 0, .bipush 28, .if_icmp .ne 7, .iconst 0, .goto 8, .iload_n 0, .iconst 4, .idiv, .iconst 1, .isub, .ireturn])
def mMO_distance : xM := (⟨"RowPackerModel", "distance", "(I)I"⟩, prog_14_method_28_code, 5, (some .int), 12,
  [.aload_n 0, .getfield 118, .istore_n 2, .iconst 0, .istore_n 3, .iload_n 1, .iconst 2, .if_icmp .ne 16, .aload_n 0, .sipush 400, .bipush 16, .invokevirtual 129, .istore_n 3, .goto 42, .aload_n 0, .invokevirtual 125, .istore 4, .aload_n 0, .getfield 115, .ifCond .ne 20, .iload_n 1, .ifCond .eq 9, .iload 4, .iconst 1, .if_icmp .ne 10, .aload_n 0, .bipush 8, .iload_n 2, .invokevirtual 121, .aload_n 0, .getfield 38, .sipush 400, .iaload, .istore_n 3, .aload_n 0, .getfield 115, .ifCond .ne 16, .iload_n 3, .bipush 29, .if_icmp .le 10, .aload_n 0, .bipush 8, .iload_n 2, .invokevirtual 121, .aload_n 0, .getfield 115, .ifCond .le 5, .iconst 0, .ireturn, .iload_n 3, .invokestatic 112, .aload_n 0, .iload_n 3, .invokestatic 149, .invokevirtual 133, .iadd, .istore 4, .aload_n 0, .getfield 115, .ifCond .ne 24, .iload 4, .aload_n 0, .getfield 146, .aload_n 0, .getfield 152, .isub, .if_icmp .le 10, .aload_n 0, .bipush 9, .iload_n 2, .invokevirtual 121, .iload 4, .ireturn])
def mMO_leastDistance : xM := (⟨"RowPackerModel", "leastDistance", "(I)I"⟩, prog_14_method_13_code, 1, (some .int), 12,
  [.iload_n 0, .iconst 4, .if_icmp .ge 9, .iconst 1, .iload_n 0, .iadd, .goto 18, .iconst 2, .iload_n 0, .iconst 2, .irem, .iadd, .iconst 1, .iload_n 0, .iconst 2, .idiv, .iconst 1, .isub, .ishl, .imul, .iconst 1, .iadd, .ireturn])
def mMO_distanceBits : xM := (⟨"RowPackerModel", "distanceBits", "(I)I"⟩, prog_14_method_14_code, 1, (some .int), 12,
  [.iload_n 0, .iconst 4, .if_icmp .ge 7, .iconst 0, .goto 8, .iload_n 0, .iconst 2, .idiv, .iconst 1, .isub, .ireturn])
def mMO_note : xM := (⟨"RowPackerModel", "note", "(IIII)V"⟩, prog_14_method_31_code, 5, none, 12,
  [.aload_n 0, .getfield 171, .bipush 64, .if_icmp .ge 44, .aload_n 0, .getfield 22, .aload_n 0, .getfield 171, .iload_n 1, .iastore, .aload_n 0, .getfield 26, .aload_n 0, .getfield 171, .iload_n 2, .iastore, .aload_n 0, .getfield 29, .aload_n 0, .getfield 171, .iload_n 3, .iastore, .aload_n 0, .getfield 32, .aload_n 0, .getfield 171, .iload 4, .iastore, .aload_n 0, .dup, .getfield 171, .iconst 1, .iadd, .putfield 171, .return_])
def mMO_wantEnd : xM := (⟨"RowPackerModel", "wantEnd", "()V"⟩, prog_14_method_34_code, 1, none, 12,
  [.aload_n 0, .getfield 115, .ifCond .ne 27, .aload_n 0, .getfield 118, .bipush 8, .aload_n 0, .getfield 82, .imul, .if_icmp .ge 13, .aload_n 0, .bipush 11, .aload_n 0, .getfield 118, .invokevirtual 121, .return_])
def mMO_readShort : xM := (⟨"RowPackerModel", "readShort", "()V"⟩, prog_14_method_35_code, 7, none, 12,
  [.aload_n 0, .invokevirtual 190, .istore_n 1, .aload_n 0, .getfield 115, .ifCond .ne 28, .iload_n 1, .bipush 16, .irem, .bipush 8, .if_icmp .ne 12, .iload_n 1, .bipush 16, .idiv, .bipush 7, .if_icmp .le 10, .aload_n 0, .bipush 12, .iconst 0, .invokevirtual 121, .aload_n 0, .invokevirtual 190, .istore_n 2, .aload_n 0, .getfield 115, .ifCond .ne 34, .iload_n 2, .bipush 32, .idiv, .iconst 2, .irem, .iconst 1, .if_icmp .eq 16, .sipush 256, .iload_n 1, .imul, .iload_n 2, .iadd, .bipush 31, .irem, .ifCond .eq 11, .aload_n 0, .bipush 12, .bipush 8, .invokevirtual 121, .aload_n 0, .invokevirtual 193, .aload_n 0, .invokevirtual 167, .aload_n 0, .getfield 118, .istore_n 3, .lconst 0, .lstore 4, .iconst 0, .istore 6, .iload 6, .iconst 4, .if_icmp .ge 23, .ldc2_w 196, .lload 4, .lmul, .aload_n 0, .invokevirtual 190, .i2l, .ladd, .lstore 4, .iinc 6 1, .goto (-23), .aload_n 0, .getfield 115, .ifCond .ne 28, .lload 4, .aload_n 0, .getfield 15, .iconst 0, .aload_n 0, .getfield 146, .invokestatic 101, .lcmp, .ifCond .eq 10, .aload_n 0, .bipush 13, .iload_n 3, .invokevirtual 121, .aload_n 0, .invokevirtual 198, .return_])
def mMO_wrapped : xM := (⟨"RowPackerModel", "wrapped", "()I"⟩, prog_14_method_33_code, 1, (some .int), 12,
  [.aload_n 0, .bipush 8, .invokevirtual 133, .ireturn])
def mMO_readLong : xM := (⟨"RowPackerModel", "readLong", "()V"⟩, prog_14_method_41_code, 5, none, 12,
  [.iconst 1, .istore_n 1, .iload_n 1, .ifCond .eq 143, .aload_n 0, .getfield 115, .ifCond .ne 136, .aload_n 0, .aload_n 0, .getfield 146, .putfield 152, .aload_n 0, .invokevirtual 212, .aload_n 0, .getfield 115, .ifCond .ne 7, .aload_n 0, .invokevirtual 193, .aload_n 0, .invokevirtual 167, .aload_n 0, .getfield 118, .istore_n 2, .aload_n 0, .invokevirtual 215, .lstore_n 3, .aload_n 0, .getfield 115, .ifCond .ne 30, .lload_n 3, .aload_n 0, .getfield 15, .aload_n 0, .getfield 152, .aload_n 0, .getfield 146, .invokestatic 105, .lcmp, .ifCond .eq 10, .aload_n 0, .bipush 13, .iload_n 2, .invokevirtual 121, .aload_n 0, .getfield 118, .istore_n 2, .aload_n 0, .invokevirtual 215, .lstore_n 3, .aload_n 0, .getfield 115, .ifCond .ne 25, .lload_n 3, .aload_n 0, .getfield 146, .aload_n 0, .getfield 152, .isub, .i2l, .lcmp, .ifCond .eq 10, .aload_n 0, .bipush 14, .iload_n 2, .invokevirtual 121, .aload_n 0, .getfield 118, .bipush 8, .aload_n 0, .getfield 82, .imul, .if_icmp .ge 7, .iconst 1, .goto 4, .iconst 0, .istore_n 1, .goto (-141), .return_])
def mMO_readHead : xM := (⟨"RowPackerModel", "readHead", "()V"⟩, prog_14_method_40_code, 5, none, 12,
  [.aload_n 0, .getfield 118, .bipush 8, .idiv, .istore_n 1, .aload_n 0, .bipush 31, .invokevirtual 201, .aload_n 0, .sipush 139, .invokevirtual 201, .aload_n 0, .bipush 8, .invokevirtual 201, .aload_n 0, .getfield 118, .istore_n 2, .aload_n 0, .invokevirtual 190, .istore_n 3, .aload_n 0, .getfield 115, .ifCond .ne 16, .iload_n 3, .bipush 31, .if_icmp .le 10, .aload_n 0, .bipush 12, .iload_n 2, .invokevirtual 121, .aload_n 0, .bipush 6, .invokevirtual 204, .iload_n 3, .iconst 4, .iand, .ifCond .eq 13, .aload_n 0, .aload_n 0, .bipush 16, .invokevirtual 133, .invokevirtual 204, .iload_n 3, .bipush 8, .iand, .ifCond .eq 7, .aload_n 0, .invokevirtual 207, .iload_n 3, .bipush 16, .iand, .ifCond .eq 7, .aload_n 0, .invokevirtual 207, .iload_n 3, .iconst 2, .iand, .ifCond .eq 52, .aload_n 0, .getfield 118, .istore_n 2, .aload_n 0, .bipush 16, .invokevirtual 133, .istore 4, .aload_n 0, .getfield 115, .ifCond .ne 32, .iload 4, .aload_n 0, .getfield 8, .iload_n 1, .iload_n 2, .bipush 8, .idiv, .invokestatic 105, .ldc2_w 210, .land, .l2i, .if_icmp .eq 10, .aload_n 0, .bipush 13, .iload_n 2, .invokevirtual 121, .return_])
def mMO_want : xM := (⟨"RowPackerModel", "want", "(I)V"⟩, prog_14_method_36_code, 4, none, 12,
  [.aload_n 0, .getfield 118, .istore_n 2, .aload_n 0, .invokevirtual 190, .istore_n 3, .aload_n 0, .getfield 115, .ifCond .ne 15, .iload_n 3, .iload_n 1, .if_icmp .eq 10, .aload_n 0, .bipush 12, .iload_n 2, .invokevirtual 121, .return_])
def mMO_skip : xM := (⟨"RowPackerModel", "skip", "(I)V"⟩, prog_14_method_37_code, 4, none, 12,
  [.iconst 0, .istore_n 2, .iload_n 2, .iload_n 1, .if_icmp .ge 21, .aload_n 0, .getfield 115, .ifCond .ne 14, .aload_n 0, .invokevirtual 190, .istore_n 3, .iinc 2 1, .goto (-20), .return_])
def mMO_skipText : xM := (⟨"RowPackerModel", "skipText", "()V"⟩, prog_14_method_38_code, 2, none, 12,
  [.iconst 1, .istore_n 1, .iload_n 1, .ifCond .eq 18, .aload_n 0, .getfield 115, .ifCond .ne 11, .aload_n 0, .invokevirtual 190, .istore_n 1, .goto (-16), .return_])
def mMO_four : xM := (⟨"RowPackerModel", "four", "()J"⟩, prog_14_method_39_code, 4, (some .long), 12,
  [.lconst 0, .lstore_n 1, .iconst 0, .istore_n 3, .iload_n 3, .iconst 4, .if_icmp .ge 22, .lload_n 1, .aload_n 0, .invokevirtual 190, .i2l, .bipush 8, .iload_n 3, .imul, .lshl, .lor, .lstore_n 1, .iinc 3 1, .goto (-21), .lload_n 1, .lreturn])
def mMO_pack : xM := (⟨"RowPackerModel", "pack", "(I)I"⟩, prog_14_method_68_code, 5, (some .int), 12,
  [.aload_n 0, .iload_n 1, .ifCond .lt 8, .iload_n 1, .iconst 2, .if_icmp .le 7, .iconst 1, .goto 4, .iconst 0, .putfield 79, .aload_n 0, .getfield 79, .ifCond .le 5, .iconst 0, .ireturn, .aload_n 0, .invokevirtual 219, .iload_n 1, .iconst 1, .if_icmp .ne 23, .aload_n 0, .bipush 8, .bipush 120, .invokevirtual 294, .aload_n 0, .bipush 8, .sipush 156, .invokevirtual 294, .goto 71, .iload_n 1, .iconst 2, .if_icmp .ne 66, .iconst 0, .istore_n 2, .iload_n 2, .bipush 10, .if_icmp .ge 58, .aload_n 0, .bipush 8, .iload_n 2, .ifCond .ne 8, .bipush 31, .goto 37, .iload_n 2, .iconst 1, .if_icmp .ne 9, .sipush 139, .goto 26, .iload_n 2, .iconst 2, .if_icmp .ne 8, .bipush 8, .goto 16, .iload_n 2, .bipush 9, .if_icmp .ne 9, .sipush 255, .goto 4, .iconst 0, .invokevirtual 294, .iinc 2 1, .goto (-58), .aload_n 0, .invokevirtual 319, .iload_n 1, .iconst 1, .if_icmp .ne 49, .aload_n 0, .getfield 8, .iconst 0, .aload_n 0, .getfield 82, .invokestatic 101, .lstore_n 2, .bipush 24, .istore 4, .iload 4, .ifCond .lt 24, .aload_n 0, .bipush 8, .lload_n 2, .iload 4, .lshr, .l2i, .sipush 255, .iand, .invokevirtual 294, .iinc 4 (-8), .goto (-23), .goto 33, .iload_n 1, .iconst 2, .if_icmp .ne 28, .aload_n 0, .aload_n 0, .getfield 8, .iconst 0, .aload_n 0, .getfield 82, .invokestatic 105, .invokevirtual 322, .aload_n 0, .aload_n 0, .getfield 82, .i2l, .invokevirtual 322, .aload_n 0, .aload_n 0, .getfield 118, .bipush 8, .idiv, .putfield 146, .aload_n 0, .getfield 146, .ireturn])
def mMO_putNumber : xM := (⟨"RowPackerModel", "putNumber", "(II)V"⟩, prog_14_method_47_code, 4, none, 12,
  [.iconst 0, .istore_n 3, .iload_n 3, .iload_n 1, .if_icmp .ge 18, .aload_n 0, .iload_n 2, .iload_n 3, .ishr, .iconst 1, .iand, .invokevirtual 231, .iinc 3 1, .goto (-17), .return_])
def mMO_putBit : xM := (⟨"RowPackerModel", "putBit", "(I)V"⟩, prog_14_method_46_code, 2, none, 12,
  [.aload_n 0, .getfield 118, .bipush 8, .irem, .ifCond .ne 16, .aload_n 0, .getfield 15, .aload_n 0, .getfield 118, .bipush 8, .idiv, .iconst 0, .bastore, .aload_n 0, .getfield 15, .aload_n 0, .getfield 118, .bipush 8, .idiv, .aload_n 0, .getfield 15, .aload_n 0, .getfield 118, .bipush 8, .idiv, .baload, .iload_n 1, .aload_n 0, .getfield 118, .bipush 8, .irem, .ishl, .ior, .i2b, .bastore, .aload_n 0, .dup, .getfield 118, .iconst 1, .iadd, .putfield 118, .return_])
def mMO_putBlocks : xM := (⟨"RowPackerModel", "putBlocks", "()V"⟩, prog_14_method_66_code, 7, none, 12,
  [.iconst 0, .istore_n 1, .iconst 1, .istore_n 2, .iload_n 2, .ifCond .eq 224, .iload_n 1, .istore_n 3, .aload_n 0, .iconst 0, .putfield 242, .iload_n 1, .aload_n 0, .getfield 82, .if_icmp .ge 175, .aload_n 0, .getfield 242, .sipush 1024, .if_icmp .ge 165, .aload_n 0, .iload_n 1, .invokevirtual 312, .istore 4, .iload 4, .ifCond .le 23, .iload_n 1, .iconst 1, .iadd, .aload_n 0, .getfield 82, .if_icmp .ge 13, .aload_n 0, .iload_n 1, .iconst 1, .iadd, .invokevirtual 312, .goto 4, .iconst 0, .istore 5, .iload 4, .ifCond .le 20, .iload 5, .ldc 14, .idiv, .iload 4, .ldc 14, .idiv, .if_icmp .gt 7, .iconst 1, .goto 4, .iconst 0, .istore 6, .aload_n 0, .getfield 47, .aload_n 0, .getfield 242, .iload 6, .ifCond .eq 11, .iload 4, .ldc 14, .idiv, .goto 4, .iconst 1, .iastore, .aload_n 0, .getfield 50, .aload_n 0, .getfield 242, .iload 6, .ifCond .eq 11, .iload 4, .ldc 14, .irem, .goto 13, .aload_n 0, .getfield 8, .iload_n 1, .baload, .sipush 255, .iand, .iastore, .iload_n 1, .aload_n 0, .getfield 47, .aload_n 0, .getfield 242, .iaload, .iadd, .istore_n 1, .aload_n 0, .dup, .getfield 242, .iconst 1, .iadd, .putfield 242, .aload_n 0, .iload 6, .ifCond .eq 12, .aload_n 0, .getfield 164, .iconst 1, .iadd, .goto 7, .aload_n 0, .getfield 164, .putfield 164, .goto (-177), .iload_n 1, .aload_n 0, .getfield 82, .if_icmp .ge 7, .iconst 1, .goto 4, .iconst 0, .istore_n 2, .aload_n 0, .iload_n 3, .iload_n 1, .iload_n 3, .isub, .iload_n 2, .ifCond .ne 7, .iconst 1, .goto 4, .iconst 0, .invokevirtual 315, .goto (-222), .aload_n 0, .invokevirtual 297, .return_])
def mMO_stretchOf : xM := (⟨"RowPackerModel", "stretchOf", "(I)I"⟩, prog_14_method_45_code, 7, (some .int), 12,
  [.iconst 2, .istore_n 2, .iconst 0, .istore_n 3, .aload_n 0, .getfield 82, .iload_n 1, .isub, .sipush 258, .if_icmp .ge 12, .aload_n 0, .getfield 82, .iload_n 1, .isub, .goto 6, .sipush 258, .istore 4, .iconst 1, .istore 5, .iload 5, .sipush 4096, .if_icmp .gt 84, .iload 5, .iload_n 1, .if_icmp .gt 78, .iload_n 2, .iload 4, .if_icmp .ge 72, .aload_n 0, .getfield 8, .iload_n 1, .iload_n 2, .iadd, .baload, .aload_n 0, .getfield 8, .iload_n 1, .iload 5, .isub, .iload_n 2, .iadd, .baload, .if_icmp .ne 44, .aload_n 0, .getfield 8, .iload_n 1, .baload, .aload_n 0, .getfield 8, .iload_n 1, .iload 5, .isub, .baload, .if_icmp .ne 26, .aload_n 0, .iload_n 1, .iload_n 1, .iload 5, .isub, .invokevirtual 228, .istore 6, .iload 6, .iload_n 2, .if_icmp .le 9, .iload 6, .istore_n 2, .iload 5, .istore_n 3, .iinc 5 1, .goto (-86), .iload_n 2, .iconst 2, .if_icmp .le 12, .ldc 14, .iload_n 2, .imul, .iload_n 3, .iadd, .goto 4, .iconst 0, .ireturn])
def mMO_same : xM := (⟨"RowPackerModel", "same", "(II)I"⟩, prog_14_method_44_code, 4, (some .int), 12,
  [.iconst 0, .istore_n 3, .iload_n 3, .sipush 258, .if_icmp .ge 38, .iload_n 1, .iload_n 3, .iadd, .aload_n 0, .getfield 82, .if_icmp .ge 28, .aload_n 0, .getfield 8, .iload_n 1, .iload_n 3, .iadd, .baload, .aload_n 0, .getfield 8, .iload_n 2, .iload_n 3, .iadd, .baload, .if_icmp .ne 9, .iinc 3 1, .goto (-39), .iload_n 3, .ireturn])
def mMO_putBlock : xM := (⟨"RowPackerModel", "putBlock", "(IIZ)V"⟩, prog_14_method_65_code, 10, none, 12,
  [.aload_n 0, .getfield 118, .istore 4, .aload_n 0, .getfield 118, .iconst 3, .iadd, .bipush 7, .iadd, .bipush 8, .idiv, .bipush 8, .imul, .istore 5, .iload 5, .aload_n 0, .getfield 118, .isub, .bipush 32, .iadd, .bipush 8, .iload_n 2, .imul, .iadd, .istore 6, .iconst 0, .istore 7, .aload_n 0, .invokevirtual 177, .iconst 3, .aload_n 0, .invokevirtual 285, .iadd, .istore 8, .iload 8, .iload 6, .if_icmp .ge 10, .iload 8, .istore 6, .iconst 1, .istore 7, .aload_n 0, .getfield 242, .ifCond .le 15, .aload_n 0, .invokevirtual 303, .iload 6, .if_icmp .ge 6, .iconst 2, .istore 7, .aload_n 0, .iload_n 3, .ifCond .eq 7, .iconst 1, .goto 4, .iconst 0, .invokevirtual 231, .aload_n 0, .iconst 2, .iload 7, .invokevirtual 294, .iload 7, .ifCond .ne 12, .aload_n 0, .iload_n 1, .iload_n 2, .invokevirtual 306, .goto 78, .iload 7, .iconst 1, .if_icmp .ne 14, .aload_n 0, .invokevirtual 177, .aload_n 0, .invokevirtual 300, .goto 61, .sipush 286, .istore 9, .iload 9, .sipush 288, .if_icmp .ge 17, .aload_n 0, .getfield 41, .iload 9, .iconst 0, .iastore, .iinc 9 1, .goto (-19), .sipush 430, .istore 9, .iload 9, .sipush 432, .if_icmp .ge 17, .aload_n 0, .getfield 41, .iload 9, .iconst 0, .iastore, .iinc 9 1, .goto (-19), .aload_n 0, .invokevirtual 309, .aload_n 0, .iload 7, .iload 4, .aload_n 0, .getfield 118, .iload 4, .isub, .iload_n 2, .invokevirtual 186, .return_])
def mMO_pieceBits : xM := (⟨"RowPackerModel", "pieceBits", "()I"⟩, prog_14_method_61_code, 5, (some .int), 12,
  [.aload_n 0, .getfield 41, .sipush 256, .iaload, .istore_n 1, .iconst 0, .istore_n 2, .iload_n 2, .aload_n 0, .getfield 242, .if_icmp .ge 93, .aload_n 0, .getfield 47, .iload_n 2, .iaload, .iconst 1, .if_icmp .ne 20, .iload_n 1, .aload_n 0, .getfield 41, .aload_n 0, .getfield 50, .iload_n 2, .iaload, .iaload, .iadd, .istore_n 1, .goto 60, .aload_n 0, .getfield 47, .iload_n 2, .iaload, .invokestatic 245, .istore_n 3, .aload_n 0, .getfield 50, .iload_n 2, .iaload, .invokestatic 248, .istore 4, .iload_n 1, .aload_n 0, .getfield 41, .sipush 257, .iload_n 3, .iadd, .iaload, .iload_n 3, .invokestatic 158, .iadd, .aload_n 0, .getfield 41, .sipush 400, .iload 4, .iadd, .iaload, .iadd, .iload 4, .invokestatic 149, .iadd, .iadd, .istore_n 1, .iinc 2 1, .goto (-95), .iload_n 1, .ireturn])
def mMO_lengthSymbol : xM := (⟨"RowPackerModel", "lengthSymbol", "(I)I"⟩, prog_14_method_15_code, 2, (some .int), 12,
  [.bipush 28, .istore_n 1, .iload_n 1, .invokestatic 108, .iload_n 0, .if_icmp .gt 16, .iload_n 1, .bipush 28, .if_icmp .ne 16, .iload_n 0, .sipush 258, .if_icmp .ge 9, .iinc 1 (-1), .goto (-24), .iload_n 1, .ireturn])
def mMO_distanceSymbol : xM := (⟨"RowPackerModel", "distanceSymbol", "(I)I"⟩, prog_14_method_16_code, 2, (some .int), 12,
  [.bipush 29, .istore_n 1, .iload_n 1, .invokestatic 112, .iload_n 0, .if_icmp .le 9, .iinc 1 (-1), .goto (-11), .iload_n 1, .ireturn])
def mMO_plan : xM := (⟨"RowPackerModel", "plan", "()I"⟩, prog_14_method_60_code, 4, (some .int), 12,
  [.aload_n 0, .invokevirtual 260, .aload_n 0, .iconst 0, .sipush 286, .bipush 15, .invokevirtual 263, .aload_n 0, .sipush 400, .bipush 30, .bipush 15, .invokevirtual 263, .aload_n 0, .aload_n 0, .getfield 41, .iconst 0, .sipush 286, .invokestatic 266, .putfield 270, .aload_n 0, .aload_n 0, .getfield 41, .sipush 400, .bipush 30, .invokestatic 266, .putfield 273, .aload_n 0, .aload_n 0, .getfield 273, .ifCond .ne 7, .iconst 1, .goto 7, .aload_n 0, .getfield 273, .putfield 273, .iconst 0, .istore_n 1, .iload_n 1, .aload_n 0, .getfield 270, .if_icmp .ge 21, .aload_n 0, .getfield 44, .iload_n 1, .aload_n 0, .getfield 41, .iload_n 1, .iaload, .iastore, .iinc 1 1, .goto (-23), .iconst 0, .istore_n 1, .iload_n 1, .aload_n 0, .getfield 273, .if_icmp .ge 30, .aload_n 0, .getfield 44, .aload_n 0, .getfield 270, .iload_n 1, .iadd, .aload_n 0, .getfield 41, .sipush 400, .iload_n 1, .iadd, .iaload, .iastore, .iinc 1 1, .goto (-32), .aload_n 0, .aload_n 0, .getfield 270, .aload_n 0, .getfield 273, .iadd, .invokevirtual 276, .iconst 0, .istore_n 1, .iload_n 1, .aload_n 0, .getfield 251, .if_icmp .ge 28, .aload_n 0, .getfield 53, .sipush 500, .aload_n 0, .getfield 73, .iload_n 1, .iaload, .iadd, .dup2, .laload, .lconst 1, .ladd, .lastore, .iinc 1 1, .goto (-30), .iconst 0, .istore_n 1, .iconst 0, .istore_n 2, .iload_n 2, .bipush 19, .if_icmp .ge 32, .aload_n 0, .getfield 53, .sipush 500, .iload_n 2, .iadd, .laload, .lconst 0, .lcmp, .ifCond .le 9, .iload_n 1, .iconst 1, .iadd, .goto 4, .iload_n 1, .istore_n 1, .iinc 2 1, .goto (-32), .iload_n 1, .iconst 1, .if_icmp .ne 33, .aload_n 0, .getfield 53, .sipush 500, .laload, .lconst 0, .lcmp, .ifCond .le 9, .sipush 501, .goto 6, .sipush 500, .istore_n 2, .aload_n 0, .getfield 53, .iload_n 2, .lconst 1, .lastore, .aload_n 0, .sipush 500, .bipush 19, .bipush 7, .invokevirtual 263, .aload_n 0, .iconst 4, .putfield 279, .iconst 0, .istore_n 2, .iload_n 2, .bipush 19, .if_icmp .ge 47, .aload_n 0, .aload_n 0, .getfield 41, .sipush 500, .iload_n 2, .invokestatic 136, .iadd, .iaload, .ifCond .le 17, .iload_n 2, .aload_n 0, .getfield 279, .if_icmp .lt 9, .iload_n 2, .iconst 1, .iadd, .goto 7, .aload_n 0, .getfield 279, .putfield 279, .iinc 2 1, .goto (-47), .bipush 17, .iconst 3, .aload_n 0, .getfield 279, .imul, .iadd, .istore_n 2, .iconst 0, .istore_n 3, .iload_n 3, .aload_n 0, .getfield 251, .if_icmp .ge 37, .iload_n 2, .aload_n 0, .getfield 41, .sipush 500, .aload_n 0, .getfield 73, .iload_n 3, .iaload, .iadd, .iaload, .aload_n 0, .getfield 73, .iload_n 3, .iaload, .invokestatic 282, .iadd, .iadd, .istore_n 2, .iinc 3 1, .goto (-39), .iload_n 2, .aload_n 0, .invokevirtual 285, .iadd, .ireturn])
def mMO_weigh : xM := (⟨"RowPackerModel", "weigh", "()V"⟩, prog_14_method_54_code, 2, none, 12,
  [.iconst 0, .istore_n 1, .iload_n 1, .sipush 600, .if_icmp .ge 16, .aload_n 0, .getfield 53, .iload_n 1, .lconst 0, .lastore, .iinc 1 1, .goto (-17), .aload_n 0, .getfield 53, .sipush 256, .lconst 1, .lastore, .iconst 0, .istore_n 1, .iload_n 1, .aload_n 0, .getfield 242, .if_icmp .ge 81, .aload_n 0, .getfield 47, .iload_n 1, .iaload, .iconst 1, .if_icmp .ne 21, .aload_n 0, .getfield 53, .aload_n 0, .getfield 50, .iload_n 1, .iaload, .dup2, .laload, .lconst 1, .ladd, .lastore, .goto 47, .aload_n 0, .getfield 53, .sipush 257, .aload_n 0, .getfield 47, .iload_n 1, .iaload, .invokestatic 245, .iadd, .dup2, .laload, .lconst 1, .ladd, .lastore, .aload_n 0, .getfield 53, .sipush 400, .aload_n 0, .getfield 50, .iload_n 1, .iaload, .invokestatic 248, .iadd, .dup2, .laload, .lconst 1, .ladd, .lastore, .iinc 1 1, .goto (-83), .return_])
def mMO_byWeights : xM := (⟨"RowPackerModel", "byWeights", "(III)V"⟩, prog_14_method_52_code, 9, none, 12,
  [.iconst 0, .istore 4, .iconst 0, .istore 5, .iload 5, .iload_n 2, .if_icmp .ge 118, .aload_n 0, .getfield 41, .iload_n 1, .iload 5, .iadd, .iconst 0, .iastore, .aload_n 0, .getfield 53, .iload_n 1, .iload 5, .iadd, .laload, .lconst 0, .lcmp, .ifCond .le 88, .iload 4, .istore 6, .iload 6, .ifCond .le 67, .aload_n 0, .getfield 53, .iload_n 1, .iload 5, .iadd, .laload, .iload 5, .aload_n 0, .getfield 53, .iload_n 1, .aload_n 0, .getfield 70, .iload 6, .iconst 1, .isub, .iaload, .iadd, .laload, .aload_n 0, .getfield 70, .iload 6, .iconst 1, .isub, .iaload, .invokestatic 234, .ifCond .eq 25, .aload_n 0, .getfield 70, .iload 6, .aload_n 0, .getfield 70, .iload 6, .iconst 1, .isub, .iaload, .iastore, .iinc 6 (-1), .goto (-66), .aload_n 0, .getfield 70, .iload 6, .iload 5, .iastore, .iinc 4 1, .iinc 5 1, .goto (-118), .iload 4, .iconst 1, .if_icmp .ne 17, .aload_n 0, .getfield 41, .iload_n 1, .aload_n 0, .getfield 70, .iconst 0, .iaload, .iadd, .iconst 1, .iastore, .iload 4, .iconst 2, .if_icmp .ge 4, .return_, .aload_n 0, .iload_n 1, .iload 4, .iload_n 3, .invokevirtual 238, .iconst 2, .iload 4, .imul, .iconst 2, .isub, .istore 5, .iload_n 3, .istore 6, .iload 6, .ifCond .le 99, .iconst 0, .istore 7, .iconst 0, .istore 8, .iload 8, .iload 5, .if_icmp .ge 37, .aload_n 0, .getfield 63, .sipush 600, .iload 6, .imul, .iload 8, .iadd, .baload, .ifCond .eq 10, .iload 7, .iconst 1, .iadd, .goto 5, .iload 7, .istore 7, .iinc 8 1, .goto (-38), .iconst 0, .istore 8, .iload 8, .iload 7, .if_icmp .ge 27, .aload_n 0, .getfield 41, .iload_n 1, .aload_n 0, .getfield 70, .iload 8, .iaload, .iadd, .dup2, .iaload, .iconst 1, .iadd, .iastore, .iinc 8 1, .goto (-28), .iconst 2, .iload 5, .iload 7, .isub, .imul, .istore 5, .iinc 6 (-1), .goto (-98), .return_])
def mMO_isBefore : xM := (⟨"RowPackerModel", "isBefore", "(JIJI)Z"⟩, prog_14_method_51_code, 6, (some .boolean), 12,
  [.lload_n 0, .lload_n 3, .lcmp, .ifCond .lt 15, .lload_n 0, .lload_n 3, .lcmp, .ifCond .ne 13, .iload_n 2, .iload 5, .if_icmp .ge 7, .iconst 1, .goto 4, .iconst 0, .ireturn])
def mMO_layRows : xM := (⟨"RowPackerModel", "layRows", "(III)V"⟩, prog_14_method_53_code, 12, none, 12,
  [.aload_n 0, .getfield 67, .iconst 0, .iconst 0, .iastore, .iconst 1, .istore 4, .iload 4, .iload_n 3, .if_icmp .gt 237, .aload_n 0, .getfield 67, .iload 4, .iconst 1, .isub, .iaload, .iconst 2, .idiv, .istore 5, .iconst 0, .istore 6, .iconst 0, .istore 7, .iconst 0, .istore 8, .iload 6, .iload_n 2, .if_icmp .lt 10, .iload 7, .iload 5, .if_icmp .ge 187, .iload 7, .iload 5, .if_icmp .ge 45, .aload_n 0, .getfield 60, .sipush 600, .iload 4, .iconst 1, .isub, .imul, .iconst 2, .iload 7, .imul, .iadd, .laload, .aload_n 0, .getfield 60, .sipush 600, .iload 4, .iconst 1, .isub, .imul, .iconst 2, .iload 7, .imul, .iadd, .iconst 1, .iadd, .laload, .ladd, .goto 4, .lconst 0, .lstore 9, .iload 7, .iload 5, .if_icmp .eq 29, .iload 6, .iload_n 2, .if_icmp .ge 27, .aload_n 0, .getfield 53, .iload_n 1, .aload_n 0, .getfield 70, .iload 6, .iaload, .iadd, .laload, .lload 9, .lcmp, .ifCond .gt 7, .iconst 1, .goto 4, .iconst 0, .istore 11, .aload_n 0, .getfield 60, .sipush 600, .iload 4, .imul, .iload 8, .iadd, .iload 11, .ifCond .eq 20, .aload_n 0, .getfield 53, .iload_n 1, .aload_n 0, .getfield 70, .iload 6, .iaload, .iadd, .laload, .goto 5, .lload 9, .lastore, .aload_n 0, .getfield 63, .sipush 600, .iload 4, .imul, .iload 8, .iadd, .iload 11, .bastore, .iload 11, .ifCond .eq 10, .iload 6, .iconst 1, .iadd, .goto 5, .iload 6, .istore 6, .iload 11, .ifCond .eq 8, .iload 7, .goto 7, .iload 7, .iconst 1, .iadd, .istore 7, .iinc 8 1, .goto (-194), .aload_n 0, .getfield 67, .iload 4, .iload 8, .iastore, .iinc 4 1, .goto (-237), .return_])
def mMO_lastOf : xM := (⟨"RowPackerModel", "lastOf", "([III)I"⟩, prog_14_method_55_code, 5, (some .int), 12,
  [.iconst 0, .istore_n 3, .iconst 0, .istore 4, .iload 4, .iload_n 2, .if_icmp .ge 27, .aload_n 0, .iload_n 1, .iload 4, .iadd, .iaload, .ifCond .le 10, .iload 4, .iconst 1, .iadd, .goto 4, .iload_n 3, .istore_n 3, .iinc 4 1, .goto (-27), .iload_n 3, .ireturn])
def mMO_tellRow : xM := (⟨"RowPackerModel", "tellRow", "(I)V"⟩, prog_14_method_58_code, 7, none, 12,
  [.aload_n 0, .iconst 0, .putfield 251, .iconst 0, .istore_n 2, .iload_n 2, .iload_n 1, .if_icmp .ge 196, .aload_n 0, .iload_n 2, .iload_n 1, .invokevirtual 254, .istore_n 3, .aload_n 0, .getfield 44, .iload_n 2, .iaload, .ifCond .ne 69, .iload_n 3, .iconst 2, .if_icmp .le 64, .iload_n 3, .sipush 138, .if_icmp .le 9, .sipush 138, .goto 4, .iload_n 3, .istore 4, .aload_n 0, .iload 4, .bipush 10, .if_icmp .le 8, .bipush 18, .goto 5, .bipush 17, .iload 4, .bipush 10, .if_icmp .le 11, .iload 4, .bipush 11, .isub, .goto 7, .iload 4, .iconst 3, .isub, .invokevirtual 257, .iload_n 2, .iload 4, .iadd, .istore_n 2, .goto 111, .aload_n 0, .aload_n 0, .getfield 44, .iload_n 2, .iaload, .iconst 0, .invokevirtual 257, .aload_n 0, .getfield 44, .iload_n 2, .iaload, .ifCond .ne 7, .iconst 0, .goto 6, .iload_n 3, .iconst 1, .isub, .istore 4, .aload_n 0, .getfield 44, .iload_n 2, .iaload, .istore 5, .iinc 2 1, .iload 4, .iconst 2, .if_icmp .le 44, .iload 4, .bipush 6, .if_icmp .le 8, .bipush 6, .goto 5, .iload 4, .istore 6, .aload_n 0, .bipush 16, .iload 6, .iconst 3, .isub, .invokevirtual 257, .iload_n 2, .iload 6, .iadd, .istore_n 2, .iload 4, .iload 6, .isub, .istore 4, .goto (-44), .iload 4, .ifCond .le 19, .aload_n 0, .iload 5, .iconst 0, .invokevirtual 257, .iinc 2 1, .iinc 4 (-1), .goto (-18), .goto (-195), .return_])
def mMO_run : xM := (⟨"RowPackerModel", "run", "(II)I"⟩, prog_14_method_57_code, 4, (some .int), 12,
  [.iconst 0, .istore_n 3, .iload_n 1, .iload_n 3, .iadd, .iload_n 2, .if_icmp .ge 26, .aload_n 0, .getfield 44, .iload_n 1, .iload_n 3, .iadd, .iaload, .aload_n 0, .getfield 44, .iload_n 1, .iaload, .if_icmp .ne 9, .iinc 3 1, .goto (-27), .iload_n 3, .ireturn])
def mMO_tell : xM := (⟨"RowPackerModel", "tell", "(II)V"⟩, prog_14_method_56_code, 3, none, 12,
  [.aload_n 0, .getfield 73, .aload_n 0, .getfield 251, .iload_n 1, .iastore, .aload_n 0, .getfield 76, .aload_n 0, .getfield 251, .iload_n 2, .iastore, .aload_n 0, .dup, .getfield 251, .iconst 1, .iadd, .putfield 251, .return_])
def mMO_toldBits : xM := (⟨"RowPackerModel", "toldBits", "(I)I"⟩, prog_14_method_59_code, 1, (some .int), 12,
  [.iload_n 0, .bipush 16, .if_icmp .ne 7, .iconst 2, .goto 25, .iload_n 0, .bipush 17, .if_icmp .ne 7, .iconst 3, .goto 15, .iload_n 0, .bipush 18, .if_icmp .ne 8, .bipush 7, .goto 4, .iconst 0, .ireturn])
def mMO_putPlain : xM := (⟨"RowPackerModel", "putPlain", "(II)V"⟩, prog_14_method_63_code, 4, none, 12,
  [.aload_n 0, .invokevirtual 297, .aload_n 0, .bipush 16, .iload_n 2, .invokevirtual 294, .aload_n 0, .bipush 16, .ldc 170, .iload_n 2, .isub, .invokevirtual 294, .iconst 0, .istore_n 3, .iload_n 3, .iload_n 2, .if_icmp .ge 27, .aload_n 0, .bipush 8, .aload_n 0, .getfield 8, .iload_n 1, .iload_n 3, .iadd, .baload, .sipush 255, .iand, .invokevirtual 294, .iinc 3 1, .goto (-26), .return_])
def mMO_pad : xM := (⟨"RowPackerModel", "pad", "()V"⟩, prog_14_method_49_code, 1, none, 12,
  [.aload_n 0, .getfield 118, .bipush 8, .irem, .ifCond .eq 11, .aload_n 0, .iconst 0, .invokevirtual 231, .goto (-15), .return_])
def mMO_putPieces : xM := (⟨"RowPackerModel", "putPieces", "()V"⟩, prog_14_method_62_code, 4, none, 12,
  [.aload_n 0, .iconst 0, .sipush 288, .invokevirtual 288, .aload_n 0, .sipush 400, .bipush 32, .invokevirtual 288, .iconst 0, .istore_n 1, .iload_n 1, .aload_n 0, .getfield 242, .if_icmp .ge 108, .aload_n 0, .getfield 47, .iload_n 1, .iaload, .iconst 1, .if_icmp .ne 16, .aload_n 0, .aload_n 0, .getfield 50, .iload_n 1, .iaload, .invokevirtual 291, .goto 79, .aload_n 0, .getfield 47, .iload_n 1, .iaload, .invokestatic 245, .istore_n 2, .aload_n 0, .getfield 50, .iload_n 1, .iaload, .invokestatic 248, .istore_n 3, .aload_n 0, .sipush 257, .iload_n 2, .iadd, .invokevirtual 291, .aload_n 0, .iload_n 2, .invokestatic 158, .aload_n 0, .getfield 47, .iload_n 1, .iaload, .iload_n 2, .invokestatic 108, .isub, .invokevirtual 294, .aload_n 0, .sipush 400, .iload_n 3, .iadd, .invokevirtual 291, .aload_n 0, .iload_n 3, .invokestatic 149, .aload_n 0, .getfield 50, .iload_n 1, .iaload, .iload_n 3, .invokestatic 112, .isub, .invokevirtual 294, .iinc 1 1, .goto (-110), .aload_n 0, .sipush 256, .invokevirtual 291, .return_])
def mMO_makeCodes : xM := (⟨"RowPackerModel", "makeCodes", "(II)V"⟩, prog_14_method_50_code, 6, none, 12,
  [.iconst 0, .istore_n 3, .iconst 1, .istore 4, .iload 4, .bipush 16, .if_icmp .ge 55, .iconst 2, .iload_n 3, .imul, .istore_n 3, .iconst 0, .istore 5, .iload 5, .iload_n 2, .if_icmp .ge 36, .aload_n 0, .getfield 41, .iload_n 1, .iload 5, .iadd, .iaload, .iload 4, .if_icmp .ne 16, .aload_n 0, .getfield 57, .iload_n 1, .iload 5, .iadd, .iload_n 3, .iastore, .iinc 3 1, .iinc 5 1, .goto (-36), .iinc 4 1, .goto (-56), .return_])
def mMO_putCode : xM := (⟨"RowPackerModel", "putCode", "(I)V"⟩, prog_14_method_48_code, 3, none, 12,
  [.aload_n 0, .getfield 41, .iload_n 1, .iaload, .iconst 1, .isub, .istore_n 2, .iload_n 2, .ifCond .lt 23, .aload_n 0, .aload_n 0, .getfield 57, .iload_n 1, .iaload, .iload_n 2, .ishr, .iconst 1, .iand, .invokevirtual 231, .iinc 2 (-1), .goto (-21), .return_])
def mMO_putPlanned : xM := (⟨"RowPackerModel", "putPlanned", "()V"⟩, prog_14_method_64_code, 2, none, 12,
  [.aload_n 0, .sipush 500, .bipush 19, .invokevirtual 288, .aload_n 0, .iconst 5, .aload_n 0, .getfield 270, .sipush 257, .isub, .invokevirtual 294, .aload_n 0, .iconst 5, .aload_n 0, .getfield 273, .iconst 1, .isub, .invokevirtual 294, .aload_n 0, .iconst 4, .aload_n 0, .getfield 279, .iconst 4, .isub, .invokevirtual 294, .iconst 0, .istore_n 1, .iload_n 1, .aload_n 0, .getfield 279, .if_icmp .ge 27, .aload_n 0, .iconst 3, .aload_n 0, .getfield 41, .sipush 500, .iload_n 1, .invokestatic 136, .iadd, .iaload, .invokevirtual 294, .iinc 1 1, .goto (-29), .iconst 0, .istore_n 1, .iload_n 1, .aload_n 0, .getfield 251, .if_icmp .ge 42, .aload_n 0, .sipush 500, .aload_n 0, .getfield 73, .iload_n 1, .iaload, .iadd, .invokevirtual 291, .aload_n 0, .aload_n 0, .getfield 73, .iload_n 1, .iaload, .invokestatic 282, .aload_n 0, .getfield 76, .iload_n 1, .iaload, .invokevirtual 294, .iinc 1 1, .goto (-44), .aload_n 0, .invokevirtual 300, .return_])
def mMO_putFour : xM := (⟨"RowPackerModel", "putFour", "(J)V"⟩, prog_14_method_67_code, 4, none, 12,
  [.iconst 0, .istore_n 3, .iload_n 3, .iconst 4, .if_icmp .ge 26, .aload_n 0, .bipush 8, .lload_n 1, .bipush 8, .iload_n 3, .imul, .lshr, .l2i, .sipush 255, .iand, .invokevirtual 294, .iinc 3 1, .goto (-25), .return_])
def mMO_fault : xM := (⟨"RowPackerModel", "fault", "()I"⟩, prog_14_method_69_code, 1, (some .int), 12,
  [.aload_n 0, .iconst 0, .putfield 79, .aload_n 0, .getfield 115, .ireturn])
def mMO_place : xM := (⟨"RowPackerModel", "place", "()I"⟩, prog_14_method_70_code, 1, (some .int), 12,
  [.aload_n 0, .iconst 0, .putfield 79, .aload_n 0, .getfield 18, .ireturn])
def mMO_size : xM := (⟨"RowPackerModel", "size", "()I"⟩, prog_14_method_71_code, 1, (some .int), 12,
  [.aload_n 0, .iconst 0, .putfield 79, .aload_n 0, .getfield 146, .ireturn])
def mMO_out : xM := (⟨"RowPackerModel", "out", "(I)I"⟩, prog_14_method_72_code, 2, (some .int), 12,
  [.aload_n 0, .iload_n 1, .ifCond .lt 11, .iload_n 1, .aload_n 0, .getfield 146, .if_icmp .lt 7, .iconst 1, .goto 4, .iconst 0, .putfield 79, .aload_n 0, .getfield 79, .ifCond .le 7, .iconst 0, .goto 13, .aload_n 0, .getfield 15, .iload_n 1, .baload, .sipush 255, .iand, .ireturn])
def mMO_turn : xM := (⟨"RowPackerModel", "turn", "()I"⟩, prog_14_method_73_code, 2, (some .int), 12,
  [.aload_n 0, .aload_n 0, .getfield 146, .ldc 7, .if_icmp .le 7, .iconst 1, .goto 4, .iconst 0, .putfield 79, .aload_n 0, .getfield 79, .ifCond .le 5, .iconst 0, .ireturn, .iconst 0, .istore_n 1, .iload_n 1, .aload_n 0, .getfield 146, .if_icmp .ge 21, .aload_n 0, .getfield 8, .iload_n 1, .aload_n 0, .getfield 15, .iload_n 1, .baload, .bastore, .iinc 1 1, .goto (-23), .aload_n 0, .aload_n 0, .getfield 146, .putfield 82, .aload_n 0, .getfield 82, .ireturn])
def mMO_blocks : xM := (⟨"RowPackerModel", "blocks", "()I"⟩, prog_14_method_74_code, 1, (some .int), 12,
  [.aload_n 0, .iconst 0, .putfield 79, .aload_n 0, .getfield 171, .ireturn])
def mMO_block : xM := (⟨"RowPackerModel", "block", "(II)I"⟩, prog_14_method_75_code, 3, (some .int), 12,
  [.aload_n 0, .iload_n 1, .ifCond .lt 17, .iload_n 1, .aload_n 0, .getfield 171, .if_icmp .ge 9, .iload_n 1, .bipush 63, .if_icmp .le 7, .iconst 1, .goto 17, .iload_n 2, .ifCond .lt 8, .iload_n 2, .iconst 3, .if_icmp .le 7, .iconst 2, .goto 4, .iconst 0, .putfield 79, .aload_n 0, .getfield 79, .ifCond .le 5, .iconst 0, .ireturn, .iload_n 2, .ifCond .ne 12, .aload_n 0, .getfield 22, .iload_n 1, .iaload, .goto 37, .iload_n 2, .iconst 1, .if_icmp .ne 12, .aload_n 0, .getfield 26, .iload_n 1, .iaload, .goto 23, .iload_n 2, .iconst 2, .if_icmp .ne 12, .aload_n 0, .getfield 29, .iload_n 1, .iaload, .goto 9, .aload_n 0, .getfield 32, .iload_n 1, .iaload, .ireturn])
def mMO_stretches : xM := (⟨"RowPackerModel", "stretches", "()I"⟩, prog_14_method_76_code, 1, (some .int), 12,
  [.aload_n 0, .iconst 0, .putfield 79, .aload_n 0, .getfield 164, .ireturn])
def mLA_law : xM := (⟨"RowPackerLaw", "law", "([I)Z"⟩, code, 8, (some .boolean), 16,
  [.new 8, .dup, .invokespecial 51, .astore_n 1, .new 52, .dup, .invokespecial 54, .astore_n 2, .iconst 1, .newarray .long, .astore_n 3, .iconst 0, .istore 4, .iload 4, .aload_n 0, .arraylength, .bipush 6, .isub, .if_icmp .gt 768, .aload_n 0, .iload 4, .iaload, .bipush 15, .iand, .tableswitch 752 0 14 #[76, 180, 216, 284, 352, 408, 464, 477, 490, 503, 559, 603, 658, 671, 739], .aload_n 1, .aload_n 0, .iload 4, .iconst 1, .iadd, .iaload, .aload_n 0, .iload 4, .iconst 2, .iadd, .iaload, .aload_n 0, .iload 4, .iconst 3, .iadd, .iaload, .aload_n 0, .iload 4, .iconst 4, .iadd, .iaload, .aload_n 0, .iload 4, .iconst 5, .iadd, .iaload, .aload_n 3, .invokestatic 55, .istore 5, .aload_n 2, .aload_n 0, .iload 4, .iconst 1, .iadd, .iaload, .aload_n 0, .iload 4, .iconst 2, .iadd, .iaload, .aload_n 0, .iload 4, .iconst 3, .iadd, .iaload, .aload_n 0, .iload 4, .iconst 4, .iadd, .iaload, .aload_n 0, .iload 4, .iconst 5, .iadd, .iaload, .invokevirtual 60, .istore 6, .aload_n 2, .invokevirtual 61, .iload 5, .if_icmp .eq 5, .iconst 0, .ireturn, .iload 5, .ifCond .ne 15, .aload_n 3, .iconst 0, .laload, .iload 6, .i2l, .lcmp, .ifCond .eq 5, .iconst 0, .ireturn, .goto 575, .aload_n 1, .aload_n 0, .iload 4, .iconst 1, .iadd, .iaload, .invokestatic 64, .istore 5, .aload_n 2, .aload_n 0, .iload 4, .iconst 1, .iadd, .iaload, .invokevirtual 67, .aload_n 2, .invokevirtual 61, .iload 5, .if_icmp .eq 5, .iconst 0, .ireturn, .goto 539, .aload_n 1, .aload_n 0, .iload 4, .iconst 1, .iadd, .iaload, .aload_n 0, .iload 4, .iconst 2, .iadd, .iaload, .aload_n 3, .invokestatic 68, .istore 5, .aload_n 2, .aload_n 0, .iload 4, .iconst 1, .iadd, .iaload, .aload_n 0, .iload 4, .iconst 2, .iadd, .iaload, .invokevirtual 71, .istore 6, .aload_n 2, .invokevirtual 61, .iload 5, .if_icmp .eq 5, .iconst 0, .ireturn, .iload 5, .ifCond .ne 15, .aload_n 3, .iconst 0, .laload, .iload 6, .i2l, .lcmp, .ifCond .eq 5, .iconst 0, .ireturn, .goto 471, .aload_n 1, .aload_n 0, .iload 4, .iconst 1, .iadd, .iaload, .aload_n 0, .iload 4, .iconst 2, .iadd, .iaload, .aload_n 3, .invokestatic 72, .istore 5, .aload_n 2, .aload_n 0, .iload 4, .iconst 1, .iadd, .iaload, .aload_n 0, .iload 4, .iconst 2, .iadd, .iaload, .invokevirtual 74, .istore 6, .aload_n 2, .invokevirtual 61, .iload 5, .if_icmp .eq 5, .iconst 0, .ireturn, .iload 5, .ifCond .ne 15, .aload_n 3, .iconst 0, .laload, .iload 6, .i2l, .lcmp, .ifCond .eq 5, .iconst 0, .ireturn, .goto 403, .aload_n 1, .aload_n 0, .iload 4, .iconst 1, .iadd, .iaload, .aload_n 3, .invokestatic 75, .istore 5, .aload_n 2, .aload_n 0, .iload 4, .iconst 1, .iadd, .iaload, .invokevirtual 78, .istore 6, .aload_n 2, .invokevirtual 61, .iload 5, .if_icmp .eq 5, .iconst 0, .ireturn, .iload 5, .ifCond .ne 15, .aload_n 3, .iconst 0, .laload, .iload 6, .i2l, .lcmp, .ifCond .eq 5, .iconst 0, .ireturn, .goto 347, .aload_n 1, .aload_n 0, .iload 4, .iconst 1, .iadd, .iaload, .aload_n 3, .invokestatic 79, .istore 5, .aload_n 2, .aload_n 0, .iload 4, .iconst 1, .iadd, .iaload, .invokevirtual 81, .istore 6, .aload_n 2, .invokevirtual 61, .iload 5, .if_icmp .eq 5, .iconst 0, .ireturn, .iload 5, .ifCond .ne 15, .aload_n 3, .iconst 0, .laload, .iload 6, .i2l, .lcmp, .ifCond .eq 5, .iconst 0, .ireturn, .goto 291, .aload_n 1, .invokevirtual 82, .aload_n 2, .invokevirtual 85, .if_icmp .eq 280, .iconst 0, .ireturn, .aload_n 1, .invokevirtual 86, .aload_n 2, .invokevirtual 89, .if_icmp .eq 267, .iconst 0, .ireturn, .aload_n 1, .invokevirtual 90, .aload_n 2, .invokevirtual 93, .if_icmp .eq 254, .iconst 0, .ireturn, .aload_n 1, .aload_n 0, .iload 4, .iconst 1, .iadd, .iaload, .aload_n 3, .invokestatic 94, .istore 5, .aload_n 2, .aload_n 0, .iload 4, .iconst 1, .iadd, .iaload, .invokevirtual 96, .istore 6, .aload_n 2, .invokevirtual 61, .iload 5, .if_icmp .eq 5, .iconst 0, .ireturn, .iload 5, .ifCond .ne 15, .aload_n 3, .iconst 0, .laload, .iload 6, .i2l, .lcmp, .ifCond .eq 5, .iconst 0, .ireturn, .goto 196, .aload_n 1, .aload_n 3, .invokestatic 97, .istore 5, .aload_n 2, .invokevirtual 100, .istore 6, .aload_n 2, .invokevirtual 61, .iload 5, .if_icmp .eq 5, .iconst 0, .ireturn, .iload 5, .ifCond .ne 15, .aload_n 3, .iconst 0, .laload, .iload 6, .i2l, .lcmp, .ifCond .eq 5, .iconst 0, .ireturn, .goto 152, .aload_n 1, .aload_n 0, .iload 4, .iconst 1, .iadd, .iaload, .aload_n 3, .invokestatic 101, .istore 5, .aload_n 2, .aload_n 0, .iload 4, .iconst 1, .iadd, .iaload, .invokevirtual 103, .lstore 6, .aload_n 2, .invokevirtual 61, .iload 5, .if_icmp .eq 5, .iconst 0, .ireturn, .iload 5, .ifCond .ne 14, .aload_n 3, .iconst 0, .laload, .lload 6, .lcmp, .ifCond .eq 5, .iconst 0, .ireturn, .goto 97, .aload_n 1, .invokevirtual 104, .aload_n 2, .invokevirtual 107, .if_icmp .eq 86, .iconst 0, .ireturn, .aload_n 1, .aload_n 0, .iload 4, .iconst 1, .iadd, .iaload, .aload_n 0, .iload 4, .iconst 2, .iadd, .iaload, .aload_n 3, .invokestatic 108, .istore 5, .aload_n 2, .aload_n 0, .iload 4, .iconst 1, .iadd, .iaload, .aload_n 0, .iload 4, .iconst 2, .iadd, .iaload, .invokevirtual 110, .istore 6, .aload_n 2, .invokevirtual 61, .iload 5, .if_icmp .eq 5, .iconst 0, .ireturn, .iload 5, .ifCond .ne 15, .aload_n 3, .iconst 0, .laload, .iload 6, .i2l, .lcmp, .ifCond .eq 5, .iconst 0, .ireturn, .goto 16, .aload_n 1, .invokevirtual 111, .aload_n 2, .invokevirtual 114, .if_icmp .eq 5, .iconst 0, .ireturn, .iinc 4 6, .goto (-772), .iconst 1, .ireturn])
end
section
theorem ck_RP_init : x_ck mRP_init.2.1 0 mRP_init.2.2.2.2.2 = true := by decide +kernel
theorem ck_RO_init : x_ck mRO_init.2.1 0 mRO_init.2.2.2.2.2 = true := by decide +kernel
theorem ck_RE_init : x_ck mRE_init.2.1 0 mRE_init.2.2.2.2.2 = true := by decide +kernel
theorem ck_SU_init : x_ck mSU_init.2.1 0 mSU_init.2.2.2.2.2 = true := by decide +kernel
theorem ck_PK_init : x_ck mPK_init.2.1 0 mPK_init.2.2.2.2.2 = true := by decide +kernel
theorem ck_WC_init : x_ck mWC_init.2.1 0 mWC_init.2.2.2.2.2 = true := by decide +kernel
theorem ck_MC_init : x_ck mMC_init.2.1 0 mMC_init.2.2.2.2.2 = true := by decide +kernel
theorem ck_WE_init : x_ck mWE_init.2.1 0 mWE_init.2.2.2.2.2 = true := by decide +kernel
theorem ck_FI_init : x_ck mFI_init.2.1 0 mFI_init.2.2.2.2.2 = true := by decide +kernel
theorem ck_BW_init : x_ck mBW_init.2.1 0 mBW_init.2.2.2.2.2 = true := by decide +kernel
theorem ck_RP_fixedLength : x_ck mRP_fixedLength.2.1 0 mRP_fixedLength.2.2.2.2.2 = true := by decide +kernel
theorem ck_AR_fill : x_ck mAR_fill.2.1 0 mAR_fill.2.2.2.2.2 = true := by decide +kernel
theorem ck_WC_makeWords : x_ck mWC_makeWords.2.1 0 mWC_makeWords.2.2.2.2.2 = true := by decide +kernel
theorem ck_WC_turnedRound : x_ck mWC_turnedRound.2.1 0 mWC_turnedRound.2.2.2.2.2 = true := by decide +kernel
theorem ck_UN_init : x_ck mUN_init.2.1 0 mUN_init.2.2.2.2.2 = true := by decide +kernel
theorem ck_RC_init : x_ck mRC_init.2.1 0 mRC_init.2.2.2.2.2 = true := by decide +kernel
theorem ck_RC_make : x_ck mRC_make.2.1 0 mRC_make.2.2.2.2.2 = true := by decide +kernel
theorem ck_RP_fault : x_ck mRP_fault.2.1 0 mRP_fault.2.2.2.2.2 = true := by decide +kernel
theorem ck_RP_place : x_ck mRP_place.2.1 0 mRP_place.2.2.2.2.2 = true := by decide +kernel
theorem ck_RP_size : x_ck mRP_size.2.1 0 mRP_size.2.2.2.2.2 = true := by decide +kernel
theorem ck_RP_blocks : x_ck mRP_blocks.2.1 0 mRP_blocks.2.2.2.2.2 = true := by decide +kernel
theorem ck_RP_stretches : x_ck mRP_stretches.2.1 0 mRP_stretches.2.2.2.2.2 = true := by decide +kernel
theorem ck_LA_feed : x_ck mLA_feed.2.1 0 mLA_feed.2.2.2.2.2 = true := by decide +kernel
theorem ck_RP_feed : x_ck mRP_feed.2.1 0 mRP_feed.2.2.2.2.2 = true := by decide +kernel
theorem ck_RO_addFour : x_ck mRO_addFour.2.1 0 mRO_addFour.2.2.2.2.2 = true := by decide +kernel
theorem ck_RO_add : x_ck mRO_add.2.1 0 mRO_add.2.2.2.2.2 = true := by decide +kernel
theorem ck_LA_end : x_ck mLA_end.2.1 0 mLA_end.2.2.2.2.2 = true := by decide +kernel
theorem ck_RP_end : x_ck mRP_end.2.1 0 mRP_end.2.2.2.2.2 = true := by decide +kernel
theorem ck_LA_again : x_ck mLA_again.2.1 0 mLA_again.2.2.2.2.2 = true := by decide +kernel
theorem ck_RP_again : x_ck mRP_again.2.1 0 mRP_again.2.2.2.2.2 = true := by decide +kernel
theorem ck_RO_repeat : x_ck mRO_repeat.2.1 0 mRO_repeat.2.2.2.2.2 = true := by decide +kernel
theorem ck_LA_change : x_ck mLA_change.2.1 0 mLA_change.2.2.2.2.2 = true := by decide +kernel
theorem ck_RP_change : x_ck mRP_change.2.1 0 mRP_change.2.2.2.2.2 = true := by decide +kernel
theorem ck_RO_byteAt : x_ck mRO_byteAt.2.1 0 mRO_byteAt.2.2.2.2.2 = true := by decide +kernel
theorem ck_LA_pack : x_ck mLA_pack.2.1 0 mLA_pack.2.2.2.2.2 = true := by decide +kernel
theorem ck_RP_pack : x_ck mRP_pack.2.1 0 mRP_pack.2.2.2.2.2 = true := by decide +kernel
theorem ck_PK_packTape : x_ck mPK_packTape.2.1 0 mPK_packTape.2.2.2.2.2 = true := by decide +kernel
theorem ck_RE_clear : x_ck mRE_clear.2.1 0 mRE_clear.2.2.2.2.2 = true := by decide +kernel
theorem ck_BW_restart : x_ck mBW_restart.2.1 0 mBW_restart.2.2.2.2.2 = true := by decide +kernel
theorem ck_FI_restart : x_ck mFI_restart.2.1 0 mFI_restart.2.2.2.2.2 = true := by decide +kernel
theorem ck_PK_writeHead : x_ck mPK_writeHead.2.1 0 mPK_writeHead.2.2.2.2.2 = true := by decide +kernel
theorem ck_BW_writeNumber : x_ck mBW_writeNumber.2.1 0 mBW_writeNumber.2.2.2.2.2 = true := by decide +kernel
theorem ck_PK_takePieces : x_ck mPK_takePieces.2.1 0 mPK_takePieces.2.2.2.2.2 = true := by decide +kernel
theorem ck_PK_takePiece : x_ck mPK_takePiece.2.1 0 mPK_takePiece.2.2.2.2.2 = true := by decide +kernel
theorem ck_FI_find : x_ck mFI_find.2.1 0 mFI_find.2.2.2.2.2 = true := by decide +kernel
theorem ck_FI_enterPlacesBefore : x_ck mFI_enterPlacesBefore.2.1 0 mFI_enterPlacesBefore.2.2.2.2.2 = true := by decide +kernel
theorem ck_FI_keyAt : x_ck mFI_keyAt.2.1 0 mFI_keyAt.2.2.2.2.2 = true := by decide +kernel
theorem ck_MA_min : x_ck mMA_min.2.1 0 mMA_min.2.2.2.2.2 = true := by decide +kernel
theorem ck_FI_search : x_ck mFI_search.2.1 0 mFI_search.2.2.2.2.2 = true := by decide +kernel
theorem ck_MA_max : x_ck mMA_max.2.1 0 mMA_max.2.2.2.2.2 = true := by decide +kernel
theorem ck_FI_sameBytes : x_ck mFI_sameBytes.2.1 0 mFI_sameBytes.2.2.2.2.2 = true := by decide +kernel
theorem ck_PK_takeStretch : x_ck mPK_takeStretch.2.1 0 mPK_takeStretch.2.2.2.2.2 = true := by decide +kernel
theorem ck_RP_lengthSymbol : x_ck mRP_lengthSymbol.2.1 0 mRP_lengthSymbol.2.2.2.2.2 = true := by decide +kernel
theorem ck_RP_bitsAbove : x_ck mRP_bitsAbove.2.1 0 mRP_bitsAbove.2.2.2.2.2 = true := by decide +kernel
theorem ck_RP_distanceSymbol : x_ck mRP_distanceSymbol.2.1 0 mRP_distanceSymbol.2.2.2.2.2 = true := by decide +kernel
theorem ck_RP_lengthBits : x_ck mRP_lengthBits.2.1 0 mRP_lengthBits.2.2.2.2.2 = true := by decide +kernel
theorem ck_RP_distanceBits : x_ck mRP_distanceBits.2.1 0 mRP_distanceBits.2.2.2.2.2 = true := by decide +kernel
theorem ck_PK_takeByte : x_ck mPK_takeByte.2.1 0 mPK_takeByte.2.2.2.2.2 = true := by decide +kernel
theorem ck_MC_make : x_ck mMC_make.2.1 0 mMC_make.2.2.2.2.2 = true := by decide +kernel
theorem ck_WE_makeLengths : x_ck mWE_makeLengths.2.1 0 mWE_makeLengths.2.2.2.2.2 = true := by decide +kernel
theorem ck_WE_sortSymbols : x_ck mWE_sortSymbols.2.1 0 mWE_sortSymbols.2.2.2.2.2 = true := by decide +kernel
theorem ck_WE_makeRow : x_ck mWE_makeRow.2.1 0 mWE_makeRow.2.2.2.2.2 = true := by decide +kernel
theorem ck_WE_countSymbols : x_ck mWE_countSymbols.2.1 0 mWE_countSymbols.2.2.2.2.2 = true := by decide +kernel
theorem ck_WC_manyWithCode : x_ck mWC_manyWithCode.2.1 0 mWC_manyWithCode.2.2.2.2.2 = true := by decide +kernel
theorem ck_MC_tellRow : x_ck mMC_tellRow.2.1 0 mMC_tellRow.2.2.2.2.2 = true := by decide +kernel
theorem ck_MC_tellRun : x_ck mMC_tellRun.2.1 0 mMC_tellRun.2.2.2.2.2 = true := by decide +kernel
theorem ck_MC_tell : x_ck mMC_tell.2.1 0 mMC_tell.2.2.2.2.2 = true := by decide +kernel
theorem ck_MC_weighTold : x_ck mMC_weighTold.2.1 0 mMC_weighTold.2.2.2.2.2 = true := by decide +kernel
theorem ck_PK_writeBlock : x_ck mPK_writeBlock.2.1 0 mPK_writeBlock.2.2.2.2.2 = true := by decide +kernel
theorem ck_BW_bitsWritten : x_ck mBW_bitsWritten.2.1 0 mBW_bitsWritten.2.2.2.2.2 = true := by decide +kernel
theorem ck_PK_fewestBits : x_ck mPK_fewestBits.2.1 0 mPK_fewestBits.2.2.2.2.2 = true := by decide +kernel
theorem ck_WC_bitsFor : x_ck mWC_bitsFor.2.1 0 mWC_bitsFor.2.2.2.2.2 = true := by decide +kernel
theorem ck_MC_bitsOfTelling : x_ck mMC_bitsOfTelling.2.1 0 mMC_bitsOfTelling.2.2.2.2.2 = true := by decide +kernel
theorem ck_MC_numberBits : x_ck mMC_numberBits.2.1 0 mMC_numberBits.2.2.2.2.2 = true := by decide +kernel
theorem ck_PK_writePlain : x_ck mPK_writePlain.2.1 0 mPK_writePlain.2.2.2.2.2 = true := by decide +kernel
theorem ck_BW_fillByte : x_ck mBW_fillByte.2.1 0 mBW_fillByte.2.2.2.2.2 = true := by decide +kernel
theorem ck_PK_writePieces : x_ck mPK_writePieces.2.1 0 mPK_writePieces.2.2.2.2.2 = true := by decide +kernel
theorem ck_BW_writeSymbol : x_ck mBW_writeSymbol.2.1 0 mBW_writeSymbol.2.2.2.2.2 = true := by decide +kernel
theorem ck_RP_lengthBase : x_ck mRP_lengthBase.2.1 0 mRP_lengthBase.2.2.2.2.2 = true := by decide +kernel
theorem ck_RP_distanceBase : x_ck mRP_distanceBase.2.1 0 mRP_distanceBase.2.2.2.2.2 = true := by decide +kernel
theorem ck_MC_writeTelling : x_ck mMC_writeTelling.2.1 0 mMC_writeTelling.2.2.2.2.2 = true := by decide +kernel
theorem ck_RE_addBlock : x_ck mRE_addBlock.2.1 0 mRE_addBlock.2.2.2.2.2 = true := by decide +kernel
theorem ck_PK_writeTail : x_ck mPK_writeTail.2.1 0 mPK_writeTail.2.2.2.2.2 = true := by decide +kernel
theorem ck_SU_sumA : x_ck mSU_sumA.2.1 0 mSU_sumA.2.2.2.2.2 = true := by decide +kernel
theorem ck_BW_writeFour : x_ck mBW_writeFour.2.1 0 mBW_writeFour.2.2.2.2.2 = true := by decide +kernel
theorem ck_SU_sumB : x_ck mSU_sumB.2.1 0 mSU_sumB.2.2.2.2.2 = true := by decide +kernel
theorem ck_LA_unpack : x_ck mLA_unpack.2.1 0 mLA_unpack.2.2.2.2.2 = true := by decide +kernel
theorem ck_RP_unpack : x_ck mRP_unpack.2.1 0 mRP_unpack.2.2.2.2.2 = true := by decide +kernel
theorem ck_UN_unpackTape : x_ck mUN_unpackTape.2.1 0 mUN_unpackTape.2.2.2.2.2 = true := by decide +kernel
theorem ck_UN_readHead : x_ck mUN_readHead.2.1 0 mUN_readHead.2.2.2.2.2 = true := by decide +kernel
theorem ck_UN_readShortHead : x_ck mUN_readShortHead.2.1 0 mUN_readShortHead.2.2.2.2.2 = true := by decide +kernel
theorem ck_UN_readNumber : x_ck mUN_readNumber.2.1 0 mUN_readNumber.2.2.2.2.2 = true := by decide +kernel
theorem ck_UN_fail : x_ck mUN_fail.2.1 0 mUN_fail.2.2.2.2.2 = true := by decide +kernel
theorem ck_UN_readLongHead : x_ck mUN_readLongHead.2.1 0 mUN_readLongHead.2.2.2.2.2 = true := by decide +kernel
theorem ck_UN_readByteThatIs : x_ck mUN_readByteThatIs.2.1 0 mUN_readByteThatIs.2.2.2.2.2 = true := by decide +kernel
theorem ck_UN_skipBytes : x_ck mUN_skipBytes.2.1 0 mUN_skipBytes.2.2.2.2.2 = true := by decide +kernel
theorem ck_UN_skipThroughZero : x_ck mUN_skipThroughZero.2.1 0 mUN_skipThroughZero.2.2.2.2.2 = true := by decide +kernel
theorem ck_UN_readSumOfHead : x_ck mUN_readSumOfHead.2.1 0 mUN_readSumOfHead.2.2.2.2.2 = true := by decide +kernel
theorem ck_UN_readBlocks : x_ck mUN_readBlocks.2.1 0 mUN_readBlocks.2.2.2.2.2 = true := by decide +kernel
theorem ck_UN_readPlain : x_ck mUN_readPlain.2.1 0 mUN_readPlain.2.2.2.2.2 = true := by decide +kernel
theorem ck_UN_goToNextByte : x_ck mUN_goToNextByte.2.1 0 mUN_goToNextByte.2.2.2.2.2 = true := by decide +kernel
theorem ck_UN_readSymbols : x_ck mUN_readSymbols.2.1 0 mUN_readSymbols.2.2.2.2.2 = true := by decide +kernel
theorem ck_UN_readSymbol : x_ck mUN_readSymbol.2.1 0 mUN_readSymbol.2.2.2.2.2 = true := by decide +kernel
theorem ck_UN_readStretch : x_ck mUN_readStretch.2.1 0 mUN_readStretch.2.2.2.2.2 = true := by decide +kernel
theorem ck_UN_readCodes : x_ck mUN_readCodes.2.1 0 mUN_readCodes.2.2.2.2.2 = true := by decide +kernel
theorem ck_UN_readCodeOfLengths : x_ck mUN_readCodeOfLengths.2.1 0 mUN_readCodeOfLengths.2.2.2.2.2 = true := by decide +kernel
theorem ck_AR_fill2 : x_ck mAR_fill2.2.1 0 mAR_fill2.2.2.2.2.2 = true := by decide +kernel
theorem ck_AR_rangeCheck : x_ck mAR_rangeCheck.2.1 0 mAR_rangeCheck.2.2.2.2.2 = true := by decide +kernel
theorem ck_RC_isFull : x_ck mRC_isFull.2.1 0 mRC_isFull.2.2.2.2.2 = true := by decide +kernel
theorem ck_UN_readLengths : x_ck mUN_readLengths.2.1 0 mUN_readLengths.2.2.2.2.2 = true := by decide +kernel
theorem ck_RC_servesDistances : x_ck mRC_servesDistances.2.1 0 mRC_servesDistances.2.2.2.2.2 = true := by decide +kernel
theorem ck_UN_readTail : x_ck mUN_readTail.2.1 0 mUN_readTail.2.2.2.2.2 = true := by decide +kernel
theorem ck_UN_readFourThatAre : x_ck mUN_readFourThatAre.2.1 0 mUN_readFourThatAre.2.2.2.2.2 = true := by decide +kernel
theorem ck_LA_out : x_ck mLA_out.2.1 0 mLA_out.2.2.2.2.2 = true := by decide +kernel
theorem ck_RP_out : x_ck mRP_out.2.1 0 mRP_out.2.2.2.2.2 = true := by decide +kernel
theorem ck_LA_turn : x_ck mLA_turn.2.1 0 mLA_turn.2.2.2.2.2 = true := by decide +kernel
theorem ck_RP_turn : x_ck mRP_turn.2.1 0 mRP_turn.2.2.2.2.2 = true := by decide +kernel
theorem ck_LA_sum : x_ck mLA_sum.2.1 0 mLA_sum.2.2.2.2.2 = true := by decide +kernel
theorem ck_RP_sum : x_ck mRP_sum.2.1 0 mRP_sum.2.2.2.2.2 = true := by decide +kernel
theorem ck_LA_block : x_ck mLA_block.2.1 0 mLA_block.2.2.2.2.2 = true := by decide +kernel
theorem ck_RP_block : x_ck mRP_block.2.1 0 mRP_block.2.2.2.2.2 = true := by decide +kernel
theorem ck_MO_init : x_ck mMO_init.2.1 0 mMO_init.2.2.2.2.2 = true := by decide +kernel
theorem ck_MO_thrown : x_ck mMO_thrown.2.1 0 mMO_thrown.2.2.2.2.2 = true := by decide +kernel
theorem ck_MO_feed : x_ck mMO_feed.2.1 0 mMO_feed.2.2.2.2.2 = true := by decide +kernel
theorem ck_MO_type : x_ck mMO_type.2.1 0 mMO_type.2.2.2.2.2 = true := by decide +kernel
theorem ck_MO_end : x_ck mMO_end.2.1 0 mMO_end.2.2.2.2.2 = true := by decide +kernel
theorem ck_MO_again : x_ck mMO_again.2.1 0 mMO_again.2.2.2.2.2 = true := by decide +kernel
theorem ck_MO_change : x_ck mMO_change.2.1 0 mMO_change.2.2.2.2.2 = true := by decide +kernel
theorem ck_MO_sum : x_ck mMO_sum.2.1 0 mMO_sum.2.2.2.2.2 = true := by decide +kernel
theorem ck_MO_sumA : x_ck mMO_sumA.2.1 0 mMO_sumA.2.2.2.2.2 = true := by decide +kernel
theorem ck_MO_sumB : x_ck mMO_sumB.2.1 0 mMO_sumB.2.2.2.2.2 = true := by decide +kernel
theorem ck_MO_unpack : x_ck mMO_unpack.2.1 0 mMO_unpack.2.2.2.2.2 = true := by decide +kernel
theorem ck_MO_clear : x_ck mMO_clear.2.1 0 mMO_clear.2.2.2.2.2 = true := by decide +kernel
theorem ck_MO_readBlocks : x_ck mMO_readBlocks.2.1 0 mMO_readBlocks.2.2.2.2.2 = true := by decide +kernel
theorem ck_MO_bit : x_ck mMO_bit.2.1 0 mMO_bit.2.2.2.2.2 = true := by decide +kernel
theorem ck_MO_fail : x_ck mMO_fail.2.1 0 mMO_fail.2.2.2.2.2 = true := by decide +kernel
theorem ck_MO_number : x_ck mMO_number.2.1 0 mMO_number.2.2.2.2.2 = true := by decide +kernel
theorem ck_MO_readPlain : x_ck mMO_readPlain.2.1 0 mMO_readPlain.2.2.2.2.2 = true := by decide +kernel
theorem ck_MO_toByte : x_ck mMO_toByte.2.1 0 mMO_toByte.2.2.2.2.2 = true := by decide +kernel
theorem ck_MO_put : x_ck mMO_put.2.1 0 mMO_put.2.2.2.2.2 = true := by decide +kernel
theorem ck_MO_plainLengths : x_ck mMO_plainLengths.2.1 0 mMO_plainLengths.2.2.2.2.2 = true := by decide +kernel
theorem ck_MO_prepare : x_ck mMO_prepare.2.1 0 mMO_prepare.2.2.2.2.2 = true := by decide +kernel
theorem ck_MO_readCodes : x_ck mMO_readCodes.2.1 0 mMO_readCodes.2.2.2.2.2 = true := by decide +kernel
theorem ck_MO_orderOf : x_ck mMO_orderOf.2.1 0 mMO_orderOf.2.2.2.2.2 = true := by decide +kernel
theorem ck_MO_readRow : x_ck mMO_readRow.2.1 0 mMO_readRow.2.2.2.2.2 = true := by decide +kernel
theorem ck_MO_symbol : x_ck mMO_symbol.2.1 0 mMO_symbol.2.2.2.2.2 = true := by decide +kernel
theorem ck_MO_readSymbols : x_ck mMO_readSymbols.2.1 0 mMO_readSymbols.2.2.2.2.2 = true := by decide +kernel
theorem ck_MO_leastLength : x_ck mMO_leastLength.2.1 0 mMO_leastLength.2.2.2.2.2 = true := by decide +kernel
theorem ck_MO_lengthBits : x_ck mMO_lengthBits.2.1 0 mMO_lengthBits.2.2.2.2.2 = true := by decide +kernel
theorem ck_MO_distance : x_ck mMO_distance.2.1 0 mMO_distance.2.2.2.2.2 = true := by decide +kernel
theorem ck_MO_leastDistance : x_ck mMO_leastDistance.2.1 0 mMO_leastDistance.2.2.2.2.2 = true := by decide +kernel
theorem ck_MO_distanceBits : x_ck mMO_distanceBits.2.1 0 mMO_distanceBits.2.2.2.2.2 = true := by decide +kernel
theorem ck_MO_note : x_ck mMO_note.2.1 0 mMO_note.2.2.2.2.2 = true := by decide +kernel
theorem ck_MO_wantEnd : x_ck mMO_wantEnd.2.1 0 mMO_wantEnd.2.2.2.2.2 = true := by decide +kernel
theorem ck_MO_readShort : x_ck mMO_readShort.2.1 0 mMO_readShort.2.2.2.2.2 = true := by decide +kernel
theorem ck_MO_wrapped : x_ck mMO_wrapped.2.1 0 mMO_wrapped.2.2.2.2.2 = true := by decide +kernel
theorem ck_MO_readLong : x_ck mMO_readLong.2.1 0 mMO_readLong.2.2.2.2.2 = true := by decide +kernel
theorem ck_MO_readHead : x_ck mMO_readHead.2.1 0 mMO_readHead.2.2.2.2.2 = true := by decide +kernel
theorem ck_MO_want : x_ck mMO_want.2.1 0 mMO_want.2.2.2.2.2 = true := by decide +kernel
theorem ck_MO_skip : x_ck mMO_skip.2.1 0 mMO_skip.2.2.2.2.2 = true := by decide +kernel
theorem ck_MO_skipText : x_ck mMO_skipText.2.1 0 mMO_skipText.2.2.2.2.2 = true := by decide +kernel
theorem ck_MO_four : x_ck mMO_four.2.1 0 mMO_four.2.2.2.2.2 = true := by decide +kernel
theorem ck_MO_pack : x_ck mMO_pack.2.1 0 mMO_pack.2.2.2.2.2 = true := by decide +kernel
theorem ck_MO_putNumber : x_ck mMO_putNumber.2.1 0 mMO_putNumber.2.2.2.2.2 = true := by decide +kernel
theorem ck_MO_putBit : x_ck mMO_putBit.2.1 0 mMO_putBit.2.2.2.2.2 = true := by decide +kernel
theorem ck_MO_putBlocks : x_ck mMO_putBlocks.2.1 0 mMO_putBlocks.2.2.2.2.2 = true := by decide +kernel
theorem ck_MO_stretchOf : x_ck mMO_stretchOf.2.1 0 mMO_stretchOf.2.2.2.2.2 = true := by decide +kernel
theorem ck_MO_same : x_ck mMO_same.2.1 0 mMO_same.2.2.2.2.2 = true := by decide +kernel
theorem ck_MO_putBlock : x_ck mMO_putBlock.2.1 0 mMO_putBlock.2.2.2.2.2 = true := by decide +kernel
theorem ck_MO_pieceBits : x_ck mMO_pieceBits.2.1 0 mMO_pieceBits.2.2.2.2.2 = true := by decide +kernel
theorem ck_MO_lengthSymbol : x_ck mMO_lengthSymbol.2.1 0 mMO_lengthSymbol.2.2.2.2.2 = true := by decide +kernel
theorem ck_MO_distanceSymbol : x_ck mMO_distanceSymbol.2.1 0 mMO_distanceSymbol.2.2.2.2.2 = true := by decide +kernel
theorem ck_MO_plan : x_ck mMO_plan.2.1 0 mMO_plan.2.2.2.2.2 = true := by decide +kernel
theorem ck_MO_weigh : x_ck mMO_weigh.2.1 0 mMO_weigh.2.2.2.2.2 = true := by decide +kernel
theorem ck_MO_byWeights : x_ck mMO_byWeights.2.1 0 mMO_byWeights.2.2.2.2.2 = true := by decide +kernel
theorem ck_MO_isBefore : x_ck mMO_isBefore.2.1 0 mMO_isBefore.2.2.2.2.2 = true := by decide +kernel
theorem ck_MO_layRows : x_ck mMO_layRows.2.1 0 mMO_layRows.2.2.2.2.2 = true := by decide +kernel
theorem ck_MO_lastOf : x_ck mMO_lastOf.2.1 0 mMO_lastOf.2.2.2.2.2 = true := by decide +kernel
theorem ck_MO_tellRow : x_ck mMO_tellRow.2.1 0 mMO_tellRow.2.2.2.2.2 = true := by decide +kernel
theorem ck_MO_run : x_ck mMO_run.2.1 0 mMO_run.2.2.2.2.2 = true := by decide +kernel
theorem ck_MO_tell : x_ck mMO_tell.2.1 0 mMO_tell.2.2.2.2.2 = true := by decide +kernel
theorem ck_MO_toldBits : x_ck mMO_toldBits.2.1 0 mMO_toldBits.2.2.2.2.2 = true := by decide +kernel
theorem ck_MO_putPlain : x_ck mMO_putPlain.2.1 0 mMO_putPlain.2.2.2.2.2 = true := by decide +kernel
theorem ck_MO_pad : x_ck mMO_pad.2.1 0 mMO_pad.2.2.2.2.2 = true := by decide +kernel
theorem ck_MO_putPieces : x_ck mMO_putPieces.2.1 0 mMO_putPieces.2.2.2.2.2 = true := by decide +kernel
theorem ck_MO_makeCodes : x_ck mMO_makeCodes.2.1 0 mMO_makeCodes.2.2.2.2.2 = true := by decide +kernel
theorem ck_MO_putCode : x_ck mMO_putCode.2.1 0 mMO_putCode.2.2.2.2.2 = true := by decide +kernel
theorem ck_MO_putPlanned : x_ck mMO_putPlanned.2.1 0 mMO_putPlanned.2.2.2.2.2 = true := by decide +kernel
theorem ck_MO_putFour : x_ck mMO_putFour.2.1 0 mMO_putFour.2.2.2.2.2 = true := by decide +kernel
theorem ck_MO_fault : x_ck mMO_fault.2.1 0 mMO_fault.2.2.2.2.2 = true := by decide +kernel
theorem ck_MO_place : x_ck mMO_place.2.1 0 mMO_place.2.2.2.2.2 = true := by decide +kernel
theorem ck_MO_size : x_ck mMO_size.2.1 0 mMO_size.2.2.2.2.2 = true := by decide +kernel
theorem ck_MO_out : x_ck mMO_out.2.1 0 mMO_out.2.2.2.2.2 = true := by decide +kernel
theorem ck_MO_turn : x_ck mMO_turn.2.1 0 mMO_turn.2.2.2.2.2 = true := by decide +kernel
theorem ck_MO_blocks : x_ck mMO_blocks.2.1 0 mMO_blocks.2.2.2.2.2 = true := by decide +kernel
theorem ck_MO_block : x_ck mMO_block.2.1 0 mMO_block.2.2.2.2.2 = true := by decide +kernel
theorem ck_MO_stretches : x_ck mMO_stretches.2.1 0 mMO_stretches.2.2.2.2.2 = true := by decide +kernel
theorem ck_LA_law : x_ck mLA_law.2.1 0 mLA_law.2.2.2.2.2 = true := by decide +kernel
end
section
/-- words that stay true under warmer tables -/
def x_gw (w : Cond) : Bool := match w with
  | .fieldLinkNest _ _ _ _ _ _ => true
  | .methodLinkNest _ _ _ _ => true
  | .castable _ _ => true
  | .declares _ => true
  | w => goodWord w
theorem x_gw.warm {w : Cond} (h : x_gw w = true) {s U : State} {a a' : Array Value} (hW : s.WarmedH U.vm) (hb : w.before a s = true) : w.before a' U = true := by
  unfold x_gw at h
  split at h
  · exact va_Nw.use rfl (va_Nw.warmF hW (va_Nw.of rfl hb))
  · exact va_Nw.use rfl (va_Nw.warmM hW (va_Nw.of rfl hb))
  · exact va_Nw.use rfl (va_Nw.warmC hW (va_Nw.of rfl hb))
  · exact va_Nw.use rfl (va_Nw.warmD hW (va_Nw.of rfl hb))
  · exact word_at hW (good_of_word h) hb
/-- the words that every method has -/
def x_tw : List Cond := lw_tbl.filter x_gw
/-- the heap as a list of cells: a reference is a place in it; 0 is the script, 1 the row of orders; the cells from 2 on are the new ones -/
abbrev xH : Type := List va_E
abbrev xL : Type := List (Option Value)
/-- where it lies: the first new address, the script's, the orders', the numbers of the classes and of the array classes, the script -/
abbrev xX : Type := Nat × Nat × Nat × va_G × (Nat → Nat) × Nat × (Nat → Int32)
def x_ad (x : xX) (k : Nat) : Nat := match k with
  | 0 => x.2.1
  | 1 => x.2.2.1
  | k + 2 => x.1 + k
def x_rv (x : xX) (v : Value) : Value := match v with
  | .ref k => .ref (x_ad x k)
  | w => w
theorem x_rv_cat (x : xX) (v : Value) : (x_rv x v).category = v.category := by cases v <;> rfl
def x_mE (x : xX) (c : va_E) : va_E := match c with
  | .inl (t, a) => .inl (x.2.2.2.2.1 t, a)
  | .inr (ci, fs) => .inr (ci, fs.map (x_rv x))
def x_ws (x : xX) : Nat → xH → va_W
  | _, [] => []
  | i, c :: t => (x.1 + i, x_mE x c) :: x_ws x (i + 1) t
theorem x_ws_get (x : xX) : ∀ (H : xH) (i k : Nat), (x_ws x i H)[k]? = (H[k]?).map (fun c => (x.1 + (i + k), x_mE x c)) := by
  intro H
  induction H with
  | nil => intro i k; simp [x_ws]
  | cons c t ih =>
    intro i k
    cases k with
    | zero => simp [x_ws]
    | succ k =>
      rw [x_ws, List.getElem?_cons_succ, List.getElem?_cons_succ, ih (i + 1) k]
      have : i + 1 + k = i + (k + 1) := by omega
      rw [this]
theorem x_ws_set (x : xX) (c : va_E) : ∀ (H : xH) (i k : Nat), x_ws x i (H.set k c) = (x_ws x i H).set k (x.1 + (i + k), x_mE x c) := by
  intro H
  induction H with
  | nil => intro i k; simp [x_ws]
  | cons d t ih =>
    intro i k
    cases k with
    | zero => simp [x_ws]
    | succ k =>
      rw [List.set_cons_succ, x_ws, x_ws, List.set_cons_succ, ih (i + 1) k]
      have : i + 1 + k = i + (k + 1) := by omega
      rw [this]
theorem x_ws_app (x : xX) (c : va_E) : ∀ (H : xH) (i : Nat), x_ws x i (H ++ [c]) = x_ws x i H ++ [(x.1 + (i + H.length), x_mE x c)] := by
  intro H
  induction H with
  | nil => intro i; simp [x_ws]
  | cons d t ih =>
    intro i
    rw [List.cons_append, x_ws, x_ws, ih (i + 1), List.cons_append]
    have : i + 1 + t.length = i + (d :: t).length := by simp; omega
    rw [this]
/-- the row of orders -/
def x_ord : Nat → Int32 := fun j => ([16, 17, 18, 0, 8, 7, 9, 6, 10, 5, 11, 4, 12, 3, 13, 2, 14, 1, 15] : List Int32).getD j 0
/-- array kinds: 0 int, 1 byte, 2 long, 3 boolean -/
def x_at (t : Nat) : FieldType := match t with
  | 0 => .int
  | 1 => .byte
  | 2 => .long
  | _ => .boolean
abbrev x_tysL (x : xX) : List (ClassId × FieldType) := [(x.2.2.2.2.1 0, .int), (x.2.2.2.2.1 1, .byte), (x.2.2.2.2.1 2, .long), (x.2.2.2.2.1 3, .boolean)]
/-- the new cells lie in the machine's heap as the list says; the two old ones are in the list -/
def xR (x : xX) (H : xH) (Hh : Heap) : Prop := va_P x.2.2.2.1 x_cl (x_ws x 0 (H.drop 2)) Hh ∧ H[0]? = some (.inl (0, x.2.2.2.2.2.1, .inl x.2.2.2.2.2.2)) ∧ H[1]? = some (.inl (0, 19, .inl x_ord)) ∧ 2 ≤ H.length
/-- a static field of a reference that nobody writes -/
def xSt (C n d : String) (A : Nat → Prop) (U : State) (Hh : Heap) : Prop := ∃ (c : ClassId) (k : Class) (i : Nat) (f : Field) (a : Nat) (cell : Cell) (v : Value), U.vm.findClass C = some c ∧ U.fieldFound? C n d = some (c, k, i, f) ∧ f.isStatic = true ∧ k.statics = some a ∧ Hh[a]? = some cell ∧ cell.vm.isStatics = true ∧ cell.cls = c ∧ f.slot < cell.slots.size ∧ k.staticTypes[f.slot]? = some f.type ∧ cell.slots[f.slot]? = some v ∧ (v = .null ∨ ∃ t, v = .ref t) ∧ ¬ A a
theorem xSt.moved {C n d : String} {A : Nat → Prop} {u U : State} {H : Heap} (hvm : u.vm.Alike U.vm) (h : xSt C n d A u H) : xSt C n d A U H := by
  obtain ⟨c, k, i, f, a, cell, v, h1, h2, h3, h4, h5, h6, h7, h8, h9, h10⟩ := h
  obtain ⟨k', hi', he⟩ := State.fieldFound?_setVm hvm h2
  exact ⟨c, k', i, f, a, cell, v, by rw [hvm.findClass]; exact h1, hi', h3, by rw [he]; exact h4, h5, h6, h7, h8, by rw [he]; exact h9, h10⟩
theorem xSt.kept {C n d : String} {A : Nat → Prop} {U : State} {H H1 : Heap} (h : xSt C n d A U H) (hq : ∀ a : Nat, a < H.size → ¬ A a → H1[a]? = H[a]?) : xSt C n d A U H1 := by
  obtain ⟨c, k, i, f, a, cell, v, h1, h2, h3, h4, h5, h6, h7, h8, h9, h10, h11, h12⟩ := h
  exact ⟨c, k, i, f, a, cell, v, h1, h2, h3, h4, by rw [hq a (Array.getElem?_eq_some_iff.mp h5).1 h12]; exact h5, h6, h7, h8, h9, h10, h11, h12⟩
theorem xSt.lays {C n d : String} {A : Nat → Prop} {U : State} {args : Array Value} (h : xSt C n d A U U.heap) : (Cond.laysStatic C n d).before args U = true := by
  obtain ⟨c, k, i, f, a, cell, v, h1, h2, h3, h4, h5, h6, h7, h8, h9, h10, h11, h12⟩ := h
  exact Cond.laysStatic_of h1 h2 h3 h4 h5 h6 h7 h8 h9
theorem xSt.isRef {C n d : String} {A : Nat → Prop} {U : State} {args : Array Value} (h : xSt C n d A U U.heap) : (Cond.isRef (.static C n d)).before args U = true := by
  obtain ⟨c, k, i, f, a, cell, v, h1, h2, h3, h4, h5, h6, h7, h8, h9, h10, h11, h12⟩ := h
  have hv := Term.static_eval (args := args) (first := U) (o := none) (idx := []) h2 h3 h4 h5 h6 h10
  rcases h11 with rfl | ⟨t, rfl⟩ <;> simp [Cond.before, Cond.holds, Cond.value, hv]
theorem xSt.of {C n d : String} {A : Nat → Prop} {s : State} {args : Array Value} (hl : (Cond.laysStatic C n d).before args s = true) (hr : (Cond.isRef (.static C n d)).before args s = true) (hA : ∀ a : Nat, a < s.heap.size → ¬ A a) : xSt C n d A s s.heap := by
  obtain ⟨c, k, i, f, a, cell, hc, hi, hst, ha, hcell, hs, hcls, hlt, hty⟩ := Cond.laysStatic_spec hl
  cases hv : (Term.static C n d).eval args s none [] s with
  | none => simp [Cond.before, Cond.holds, Cond.value, hv] at hr
  | some w =>
    obtain ⟨hst', a', cell', ha', hcell', -, hslot⟩ := Term.static_spec hi hv
    cases ha.symm.trans ha'
    cases hcell.symm.trans hcell'
    have hw : w = .null ∨ ∃ t, w = .ref t := by
      simp only [Cond.before, Cond.holds, Cond.value, hv] at hr
      cases w with
      | null => exact Or.inl rfl
      | ref t => exact Or.inr ⟨t, rfl⟩
      | _ => simp at hr
    exact ⟨c, k, i, f, a, cell, w, hc, hi, hst, ha, hcell, hs, hcls, hlt, hty, hslot, hw, hA a (Array.getElem?_eq_some_iff.mp hcell).1⟩
/-- what the tables and the old cells say at a state -/
def xK (x : xX) (U : State) (Hh : Heap) : Prop := va_K x.2.2.2.1 x_cl (x_tysL x) U ∧ va_X x.2.1 x.2.2.2.2.2.1 x.2.2.2.2.2.2 U Hh ∧ va_T .int x.2.2.1 19 (fun j => .int (x_ord j)) (fun q => x.1 ≤ q) U Hh ∧ x.2.1 < x.1 ∧ x.2.2.1 < x.1 ∧ x.1 ≤ Hh.size ∧ va_Z "RowPacker" "ORDER_OF_LENGTHS" "[I" (.ref x.2.2.1) (fun q => x.1 ≤ q) U Hh ∧ xSt "java/lang/Throwable" "UNASSIGNED_STACK" "[Ljava/lang/StackTraceElement;" (fun q => x.1 ≤ q) U Hh ∧ xSt "java/lang/Throwable" "SUPPRESSED_SENTINEL" "Ljava/util/List;" (fun q => x.1 ≤ q) U Hh ∧ va_Nc "java/lang/IllegalStateException" "java/lang/IllegalArgumentException" U ∧ va_Nc "java/lang/IllegalArgumentException" "java/lang/IndexOutOfBoundsException" U
abbrev xA (x : xX) : Nat → Prop := fun q => x.1 ≤ q
theorem xK.to {x : xX} {u U : State} {H0 H : Heap} {locs : List Loc} (hvm : u.vm.Alike U.vm) (h : xK x u H0) (hS : va_S (xA x) H0 H locs) : xK x U H := by
  obtain ⟨h1, h2, h3, h4, h5, h6, h7, h8, h9, h10, h11⟩ := h
  have ho : ∀ q : Nat, q < x.1 → H[q]? = H0[q]? := fun q hq => hS.2.1 q (Nat.lt_of_lt_of_le hq h6) (Nat.not_le.mpr hq)
  exact ⟨h1.moved hvm, (h2.moved hvm).kept (ho _ h4), (h3.moved hvm).kept (fun a ha hA => hS.2.1 a ha hA), h4, h5, Nat.le_trans h6 hS.1, (h7.moved hvm).kept (fun a ha hA => hS.2.1 a ha hA), (h8.moved hvm).kept (fun a ha hA => hS.2.1 a ha hA), (h9.moved hvm).kept (fun a ha hA => hS.2.1 a ha hA), h10.moved hvm, h11.moved hvm⟩
/-- the handlers: the law's own ten small methods have some -/
def x_hd (y : MethodName) : List (Nat × Nat × Nat × Nat) := if y.cls = "RowPackerLaw" then (match y.name with
  | "feed" => [(0, 16, 19, 13)]
  | "end" => [(0, 5, 8, 19)]
  | "again" => [(0, 10, 13, 19), (0, 10, 17, 13)]
  | "change" => [(0, 10, 13, 28), (0, 10, 17, 19)]
  | "pack" => [(0, 9, 12, 19)]
  | "unpack" => [(0, 9, 12, 19)]
  | "out" => [(0, 9, 12, 28)]
  | "turn" => [(0, 8, 11, 13)]
  | "sum" => [(0, 8, 11, 19)]
  | "block" => [(0, 10, 13, 28), (0, 10, 17, 19)]
  | _ => []) else []
/-- what is fixed while a method runs -/
def xE (x : xX) (μ : xM) (n0 : Nat) (p : Program) (s : State) (m : MethodId) (args : Array Value) (meth : Method) (c : Code) : Prop :=
  p.tables.exec = Jvm.exec ∧ c.code = μ.2.1 ∧ meth.sig.returnType = μ.2.2.2.1 ∧ c.maxLocals = μ.2.2.1 ∧ s.vm.findClass (x_cn μ.2.2.2.2.1) = some m.cls ∧ (∀ w ∈ x_tw, w.before args s = true) ∧ meth.locks = false ∧ meth.name = μ.1.name ∧ s.heap.size + 2 = x.1 + n0 ∧ xK x s s.heap ∧ c.exceptionTable.toList.map (fun h => (h.startPc, h.endPc, h.handlerPc, h.catchType)) = x_hd μ.1 ∧ x_ck μ.2.1 0 μ.2.2.2.2.2 = true
def xLv (x : xX) (nL : Nat) (L : xL) (ls : Array Slot) : Prop := L.length = nL ∧ ls.size = nL ∧ lv_wf ls ∧ ∀ (i : Nat) (v : Value), L[i]? = some (some v) → ls[i]? = some (.val (x_rv x v))
/-- an outcome -/
abbrev xO : Type := Option Value ⊕ Nat
def x_out (x : xX) (r : xO) : Outcome := match r with
  | .inl v => .returned (v.map (x_rv x))
  | .inr a => .threw (x_ad x a)
/-- the end of a method: the outcome, the heap behind it, at most so many cells and slots more -/
def xEnd (x : xX) (n0 mc ms : Nat) (Q : xO → xH → Prop) (s : State) (o : Outcome) (t : State) : Prop :=
  ∃ (r : xO) (H' : xH), o = x_out x r ∧ Q r H' ∧ xR x H' t.heap ∧ H'.length = n0 + mc ∧ va_F (xA x) s t ∧ ∃ L, s.WarmedH t.vm ∧ s.sameButNew ({ t with vm := s.vm } : State) L mc ms ∧ ∀ q ∈ L, x.1 ≤ q.base
def xMQ (x : xX) (n0 mc ms : Nat) (Q : xO → xH → Prop) (below : List Frame) (s : State) : State → Prop := fun t => ∃ o, t.status = .running ∧ Ended t below o ∧ xEnd x n0 mc ms Q s o t
abbrev xrm (d mc ms : Nat) : Room := { frames := d, cells := mc, slots := ms, locals := 48 * d }
/-- THE WALK: method μ, called where the heap had n0 cells, with room for d frames, mc cells, ms slots; now at its k-th instruction, with locals L, stack S, heap H, uc cells and us slots made: it comes to an end with Q; 'cl': nothing has been written yet -/
def xW (l : Launch) (x : xX) (d mc ms : Nat) (μ : xM) (n0 : Nat) (Q : xO → xH → Prop) (cl : Bool) (k : Nat) (L : xL) (S : List Value) (H : xH) (uc us : Nat) : Prop :=
  ∀ (p : Program) (e : Env) (s : State) (m : MethodId) (args : Array Value) (below : List Frame) (meth : Method) (c : Code) (ls : Array Slot) (Hh : Heap) (locs : List Loc),
    xE x μ n0 p s m args meth c → xR x H Hh → va_S (xA x) s.heap Hh locs → xLv x μ.2.2.1 L ls → H.length = n0 + uc → (cl = true → locs = [] ∧ Hh = s.heap) →
    W p l e (xrm d mc ms) s m args below meth c Hh locs uc us (xMQ x n0 mc ms Q below s) (F0 m (x_pc μ.2.2.2.2.2 k) ls (S.map (x_rv x)))
section XCore
variable {l : Launch} {x : xX} {d mc ms : Nat} {μ : xM} {n0 : Nat} {Q : xO → xH → Prop} {cl : Bool} {k : Nat} {L : xL} {S : List Value} {H : xH} {uc us : Nat}
theorem xE.dec {p : Program} {s : State} {m : MethodId} {args : Array Value} {meth : Method} {c : Code} (E : xE x μ n0 p s m args meth c) {i : Instr} (hc : μ.2.2.2.2.2[k]? = some i) : decode μ.2.1 (x_pc μ.2.2.2.2.2 k) = .ok (i, x_len i) := by
  have h := x_ck_at _ 0 E.2.2.2.2.2.2.2.2.2.2.2 k i hc
  rw [Nat.zero_add] at h
  exact h
theorem xLv.get {nL : Nat} {ls : Array Slot} (h : xLv x nL L ls) {i : Nat} {v : Value} (hi : L[i]? = some (some v)) : ls[i]? = some (.val (x_rv x v)) := h.2.2.2 i v hi
/-- a world without change: a row turns the frame alone -/
theorem xW.go {L' : xL} {S' : List Value} {k' : Nat} (h : ∀ (p : Program) (e : Env) (s : State) (m : MethodId) (args : Array Value) (below : List Frame) (meth : Method) (c : Code) (ls : Array Slot) (Hh : Heap) (locs : List Loc) (Qw : State → Prop),
    xE x μ n0 p s m args meth c → xR x H Hh → va_S (xA x) s.heap Hh locs → xLv x μ.2.2.1 L ls →
    (∀ ls', xLv x μ.2.2.1 L' ls' → W p l e (xrm d mc ms) s m args below meth c Hh locs uc us Qw (F0 m (x_pc μ.2.2.2.2.2 k') ls' (S'.map (x_rv x)))) → W p l e (xrm d mc ms) s m args below meth c Hh locs uc us Qw (F0 m (x_pc μ.2.2.2.2.2 k) ls (S.map (x_rv x))))
    (kk : xW l x d mc ms μ n0 Q cl k' L' S' H uc us) : xW l x d mc ms μ n0 Q cl k L S H uc us :=
  fun p e s m args below meth c ls Hh locs E R hS hL hn hcl => h p e s m args below meth c ls Hh locs _ E R hS hL fun ls' hL' => kk p e s m args below meth c ls' Hh locs E R hS hL' hn hcl
/-- a row that pushes constants or works on the stack alone -/
theorem xW.pure {S' : List Value} {i : Instr} (hc : μ.2.2.2.2.2[k]? = some i) (h : ∀ (p : Program) (e : Env) (s : State) (m : MethodId) (args : Array Value) (below : List Frame) (meth : Method) (c : Code) (ls : Array Slot) (Hh : Heap) (locs : List Loc) (Qw : State → Prop) (pc : Nat),
    p.tables.exec = Jvm.exec → c.code = μ.2.1 → decode μ.2.1 pc = .ok (i, x_len i) → W p l e (xrm d mc ms) s m args below meth c Hh locs uc us Qw (F0 m (pc + x_len i) ls (S'.map (x_rv x))) → W p l e (xrm d mc ms) s m args below meth c Hh locs uc us Qw (F0 m pc ls (S.map (x_rv x))))
    (kk : xW l x d mc ms μ n0 Q cl (k + 1) L S' H uc us) : xW l x d mc ms μ n0 Q cl k L S H uc us :=
  xW.go (fun p e s m args below meth c ls Hh locs Qw E R hS hL w => h p e s m args below meth c ls Hh locs Qw _ E.1 E.2.1 (E.dec hc) (by rw [← x_pcS _ _ _ hc]; exact w ls hL)) kk
theorem xW.weak (h : xW l x d mc ms μ n0 Q false k L S H uc us) : xW l x d mc ms μ n0 Q cl k L S H uc us :=
  fun p e s m args below meth c ls Hh locs E R hS hL hn _ => h p e s m args below meth c ls Hh locs E R hS hL hn (fun h => by cases h)
/-- locals: stores -/
def x_pv (L : xL) (i : Nat) : Bool := match i with
  | 0 => true
  | j + 1 => match L[j]? with
    | some (some w) => w.category == 1
    | _ => true
def x_st (L : xL) (i : Nat) (v : Value) : xL := L.set i (some v)
def x_sok (L : xL) (i : Nat) : Bool := decide (i < L.length) && x_pv L i
def x_st2 (L : xL) (i : Nat) (v : Value) : xL := (L.set i (some v)).set (i + 1) none
def x_sok2 (L : xL) (i : Nat) : Bool := decide (i + 1 < L.length) && x_pv L i
def x_prs (x : xX) : Nat → xL → List (Nat × Value)
  | _, [] => []
  | i, none :: t => x_prs x (i + 1) t
  | i, some v :: t => (i, x_rv x v) :: x_prs x (i + 1) t
theorem x_prs_mem (x : xX) : ∀ (L : xL) (i j : Nat) (w : Value), (j, w) ∈ x_prs x i L ↔ ∃ (m : Nat) (v : Value), L[m]? = some (some v) ∧ j = i + m ∧ w = x_rv x v := by
  intro L
  induction L with
  | nil => intro i j w; simp [x_prs]
  | cons a t ih =>
    intro i j w
    constructor
    · intro h
      cases a with
      | none =>
        obtain ⟨m, v, h1, h2, h3⟩ := (ih (i + 1) j w).mp h
        exact ⟨m + 1, v, by rw [List.getElem?_cons_succ]; exact h1, by omega, h3⟩
      | some v =>
        rcases List.mem_cons.mp h with h | h
        · cases h
          exact ⟨0, v, rfl, rfl, rfl⟩
        · obtain ⟨m, v, h1, h2, h3⟩ := (ih (i + 1) j w).mp h
          exact ⟨m + 1, v, by rw [List.getElem?_cons_succ]; exact h1, by omega, h3⟩
    · rintro ⟨m, v, h1, h2, h3⟩
      cases m with
      | zero =>
        rw [List.getElem?_cons_zero] at h1
        cases h1
        subst h2; subst h3
        exact List.mem_cons_self
      | succ m =>
        rw [List.getElem?_cons_succ] at h1
        have hm := (ih (i + 1) j w).mpr ⟨m, v, h1, by omega, h3⟩
        cases a with
        | none => exact hm
        | some v => exact List.mem_cons_of_mem _ hm
theorem xLv.has {nL : Nat} {ls : Array Slot} (h : xLv x nL L ls) : lv_has ls nL (x_prs x 0 L) := by
  refine ⟨h.2.1, h.2.2.1, fun q hq => ?_⟩
  obtain ⟨m, v, h1, h2, h3⟩ := (x_prs_mem x L 0 q.1 q.2).mp hq
  rw [h2, h3, Nat.zero_add]
  exact h.2.2.2 m v h1
theorem xLv.place {nL : Nat} {ls : Array Slot} (_ : xLv x nL L ls) {i : Nat} {v : Value} (hi : L[i]? = some (some v)) : ∃ j : Nat, (x_prs x 0 L)[j]? = some (i, x_rv x v) :=
  List.getElem?_of_mem ((x_prs_mem x L 0 i (x_rv x v)).mpr ⟨i, v, hi, by omega, rfl⟩)
theorem x_sok.lt {nL i : Nat} {ls : Array Slot} (h : xLv x nL L ls) (hok : x_sok L i = true) : i < nL := by
  rw [x_sok, Bool.and_eq_true, decide_eq_true_eq] at hok
  rw [← h.1]; exact hok.1
theorem x_sok2.lt {nL i : Nat} {ls : Array Slot} (h : xLv x nL L ls) (hok : x_sok2 L i = true) : i + 1 < nL := by
  rw [x_sok2, Bool.and_eq_true, decide_eq_true_eq] at hok
  rw [← h.1]; exact hok.1
theorem x_pv.no {i j : Nat} {v : Value} (h : x_pv L i = true) (hj : L[j]? = some (some v)) (hi : j + 1 = i) : v.category = 1 := by
  subst hi
  simp only [x_pv, hj] at h
  exact beq_iff_eq.mp h
theorem x_sok.put {nL i : Nat} {v : Value} {ls ls' : Array Slot} (h : xLv x nL L ls) (hok : x_sok L i = true) (h' : lv_has ls' nL ((i, x_rv x v) :: (x_prs x 0 L).filter (fun q => !(q.1 == i) && !(q.1 + 1 == i && q.2.category == 2)))) : xLv x nL (x_st L i v) ls' := by
  rw [x_sok, Bool.and_eq_true, decide_eq_true_eq] at hok
  refine ⟨by rw [x_st, List.length_set]; exact h.1, h'.1, h'.2.1, fun j w hj => ?_⟩
  rw [x_st, List.getElem?_set] at hj
  by_cases hij : i = j
  · rw [if_pos hij, if_pos hok.1] at hj
    cases hj
    rw [← hij]
    exact h'.2.2 _ List.mem_cons_self
  · rw [if_neg hij] at hj
    refine h'.2.2 (j, x_rv x w) (List.mem_cons_of_mem _ (List.mem_filter.mpr ⟨(x_prs_mem x L 0 j _).mpr ⟨j, w, hj, by omega, rfl⟩, ?_⟩))
    by_cases hp : j + 1 = i
    · have := x_pv.no hok.2 hj hp
      simp [x_rv_cat, this, Ne.symm hij]
    · simp [hp, Ne.symm hij]
theorem x_sok2.put {nL i : Nat} {v : Value} {ls ls' : Array Slot} (h : xLv x nL L ls) (hok : x_sok2 L i = true) (h' : lv_has ls' nL ((i, x_rv x v) :: (x_prs x 0 L).filter (fun q => !(q.1 == i) && (!(q.1 == i + 1) && !(q.1 + 1 == i && q.2.category == 2))))) : xLv x nL (x_st2 L i v) ls' := by
  rw [x_sok2, Bool.and_eq_true, decide_eq_true_eq] at hok
  refine ⟨by rw [x_st2, List.length_set, List.length_set]; exact h.1, h'.1, h'.2.1, fun j w hj => ?_⟩
  rw [x_st2, List.getElem?_set] at hj
  by_cases hi1 : i + 1 = j
  · rw [if_pos hi1] at hj
    split at hj <;> simp at hj
  · rw [if_neg hi1, List.getElem?_set] at hj
    by_cases hij : i = j
    · rw [if_pos hij, if_pos (by omega)] at hj
      cases hj
      rw [← hij]
      exact h'.2.2 _ List.mem_cons_self
    · rw [if_neg hij] at hj
      refine h'.2.2 (j, x_rv x w) (List.mem_cons_of_mem _ (List.mem_filter.mpr ⟨(x_prs_mem x L 0 j _).mpr ⟨j, w, hj, by omega, rfl⟩, ?_⟩))
      by_cases hp : j + 1 = i
      · have := x_pv.no hok.2 hj hp
        simp [x_rv_cat, this, Ne.symm hij, Ne.symm hi1]
      · simp [hp, Ne.symm hij, Ne.symm hi1]
end XCore
end
section
section XRows
variable {l : Launch} {x : xX} {d mc ms : Nat} {μ : xM} {n0 : Nat} {Q : xO → xH → Prop} {cl : Bool} {k : Nat} {L : xL} {S : List Value} {H : xH} {uc us : Nat}
variable {a b : Int32} {f g : Int64} {i r : Nat} {v w : Value}
theorem xs_iconst {n : Int} (hc : μ.2.2.2.2.2[k]? = some (.iconst n)) (kk : xW l x d mc ms μ n0 Q cl (k + 1) L (.int (Int32.ofInt n) :: S) H uc us) : xW l x d mc ms μ n0 Q cl k L (S) H uc us :=
  xW.pure (S' := .int (Int32.ofInt n) :: S) hc (fun p e s m args below meth c ls Hh locs Qw pc hx hb hd w => lv_iconst hx hb hd rfl w) kk
theorem xs_bipush {n : Int} (hc : μ.2.2.2.2.2[k]? = some (.bipush n)) (kk : xW l x d mc ms μ n0 Q cl (k + 1) L (.int (Int8.ofInt n).toInt32 :: S) H uc us) : xW l x d mc ms μ n0 Q cl k L (S) H uc us :=
  xW.pure (S' := .int (Int8.ofInt n).toInt32 :: S) hc (fun p e s m args below meth c ls Hh locs Qw pc hx hb hd w => lv_bipush hx hb hd rfl w) kk
theorem xs_sipush {n : Int} (hc : μ.2.2.2.2.2[k]? = some (.sipush n)) (kk : xW l x d mc ms μ n0 Q cl (k + 1) L (.int (Int16.ofInt n).toInt32 :: S) H uc us) : xW l x d mc ms μ n0 Q cl k L (S) H uc us :=
  xW.pure (S' := .int (Int16.ofInt n).toInt32 :: S) hc (fun p e s m args below meth c ls Hh locs Qw pc hx hb hd w => lv_sipush hx hb hd rfl w) kk
theorem xs_lconst {n : Fin 2} (hc : μ.2.2.2.2.2[k]? = some (.lconst n)) (kk : xW l x d mc ms μ n0 Q cl (k + 1) L (.long (Int64.ofNat (n : Nat)) :: S) H uc us) : xW l x d mc ms μ n0 Q cl k L (S) H uc us :=
  xW.pure (S' := .long (Int64.ofNat (n : Nat)) :: S) hc (fun p e s m args below meth c ls Hh locs Qw pc hx hb hd w => lv_lconst hx hb hd rfl w) kk
theorem xs_iadd (hc : μ.2.2.2.2.2[k]? = some .iadd) (kk : xW l x d mc ms μ n0 Q cl (k + 1) L (.int (a + b) :: S) H uc us) : xW l x d mc ms μ n0 Q cl k L (.int b :: .int a :: S) H uc us :=
  xW.pure (S' := .int (a + b) :: S) hc (fun p e s m args below meth c ls Hh locs Qw pc hx hb hd w => lv_iadd hx hb hd w) kk
theorem xs_isub (hc : μ.2.2.2.2.2[k]? = some .isub) (kk : xW l x d mc ms μ n0 Q cl (k + 1) L (.int (a - b) :: S) H uc us) : xW l x d mc ms μ n0 Q cl k L (.int b :: .int a :: S) H uc us :=
  xW.pure (S' := .int (a - b) :: S) hc (fun p e s m args below meth c ls Hh locs Qw pc hx hb hd w => lv_isub hx hb hd w) kk
theorem xs_imul (hc : μ.2.2.2.2.2[k]? = some .imul) (kk : xW l x d mc ms μ n0 Q cl (k + 1) L (.int (a * b) :: S) H uc us) : xW l x d mc ms μ n0 Q cl k L (.int b :: .int a :: S) H uc us :=
  xW.pure (S' := .int (a * b) :: S) hc (fun p e s m args below meth c ls Hh locs Qw pc hx hb hd w => lv_imul hx hb hd w) kk
theorem xs_iand (hc : μ.2.2.2.2.2[k]? = some .iand) (kk : xW l x d mc ms μ n0 Q cl (k + 1) L (.int (a &&& b) :: S) H uc us) : xW l x d mc ms μ n0 Q cl k L (.int b :: .int a :: S) H uc us :=
  xW.pure (S' := .int (a &&& b) :: S) hc (fun p e s m args below meth c ls Hh locs Qw pc hx hb hd w => lv_iand hx hb hd w) kk
theorem xs_ior (hc : μ.2.2.2.2.2[k]? = some .ior) (kk : xW l x d mc ms μ n0 Q cl (k + 1) L (.int (a ||| b) :: S) H uc us) : xW l x d mc ms μ n0 Q cl k L (.int b :: .int a :: S) H uc us :=
  xW.pure (S' := .int (a ||| b) :: S) hc (fun p e s m args below meth c ls Hh locs Qw pc hx hb hd w => lv_ior hx hb hd w) kk
theorem xs_ixor (hc : μ.2.2.2.2.2[k]? = some .ixor) (kk : xW l x d mc ms μ n0 Q cl (k + 1) L (.int (a ^^^ b) :: S) H uc us) : xW l x d mc ms μ n0 Q cl k L (.int b :: .int a :: S) H uc us :=
  xW.pure (S' := .int (a ^^^ b) :: S) hc (fun p e s m args below meth c ls Hh locs Qw pc hx hb hd w => lv_ixor hx hb hd w) kk
theorem xs_ishl (hc : μ.2.2.2.2.2[k]? = some .ishl) (kk : xW l x d mc ms μ n0 Q cl (k + 1) L (.int (a <<< (b &&& 31)) :: S) H uc us) : xW l x d mc ms μ n0 Q cl k L (.int b :: .int a :: S) H uc us :=
  xW.pure (S' := .int (a <<< (b &&& 31)) :: S) hc (fun p e s m args below meth c ls Hh locs Qw pc hx hb hd w => lv_ishl hx hb hd w) kk
theorem xs_ishr (hc : μ.2.2.2.2.2[k]? = some .ishr) (kk : xW l x d mc ms μ n0 Q cl (k + 1) L (.int (a >>> (b &&& 31)) :: S) H uc us) : xW l x d mc ms μ n0 Q cl k L (.int b :: .int a :: S) H uc us :=
  xW.pure (S' := .int (a >>> (b &&& 31)) :: S) hc (fun p e s m args below meth c ls Hh locs Qw pc hx hb hd w => lv_ishr hx hb hd w) kk
theorem xs_idiv (hc : μ.2.2.2.2.2[k]? = some .idiv) (hne : ¬ b = 0) (kk : xW l x d mc ms μ n0 Q cl (k + 1) L (.int (a / b) :: S) H uc us) : xW l x d mc ms μ n0 Q cl k L (.int b :: .int a :: S) H uc us :=
  xW.pure (S' := .int (a / b) :: S) hc (fun p e s m args below meth c ls Hh locs Qw pc hx hb hd w => lv_idiv hx hb hd hne w) kk
theorem xs_irem (hc : μ.2.2.2.2.2[k]? = some .irem) (hne : ¬ b = 0) (kk : xW l x d mc ms μ n0 Q cl (k + 1) L (.int (a - a / b * b) :: S) H uc us) : xW l x d mc ms μ n0 Q cl k L (.int b :: .int a :: S) H uc us :=
  xW.pure (S' := .int (a - a / b * b) :: S) hc (fun p e s m args below meth c ls Hh locs Qw pc hx hb hd w => lv_irem hx hb hd hne w) kk
theorem xs_ineg (hc : μ.2.2.2.2.2[k]? = some .ineg) (kk : xW l x d mc ms μ n0 Q cl (k + 1) L (.int (-a) :: S) H uc us) : xW l x d mc ms μ n0 Q cl k L (.int a :: S) H uc us :=
  xW.pure (S' := .int (-a) :: S) hc (fun p e s m args below meth c ls Hh locs Qw pc hx hb hd w => lv_ineg hx hb hd w) kk
theorem xs_iushr (hc : μ.2.2.2.2.2[k]? = some .iushr) (kk : xW l x d mc ms μ n0 Q cl (k + 1) L (.int (a.toUInt32 >>> (b.toUInt32 &&& Int32.toUInt32 31)).toInt32 :: S) H uc us) : xW l x d mc ms μ n0 Q cl k L (.int b :: .int a :: S) H uc us :=
  xW.pure (S' := .int (a.toUInt32 >>> (b.toUInt32 &&& Int32.toUInt32 31)).toInt32 :: S) hc (fun p e s m args below meth c ls Hh locs Qw pc hx hb hd w => lv_iushr hx hb hd rfl w) kk
theorem xs_ladd (hc : μ.2.2.2.2.2[k]? = some .ladd) (kk : xW l x d mc ms μ n0 Q cl (k + 1) L (.long (f + g) :: S) H uc us) : xW l x d mc ms μ n0 Q cl k L (.long g :: .long f :: S) H uc us :=
  xW.pure (S' := .long (f + g) :: S) hc (fun p e s m args below meth c ls Hh locs Qw pc hx hb hd w => lv_ladd hx hb hd w) kk
theorem xs_lsub (hc : μ.2.2.2.2.2[k]? = some .lsub) (kk : xW l x d mc ms μ n0 Q cl (k + 1) L (.long (f - g) :: S) H uc us) : xW l x d mc ms μ n0 Q cl k L (.long g :: .long f :: S) H uc us :=
  xW.pure (S' := .long (f - g) :: S) hc (fun p e s m args below meth c ls Hh locs Qw pc hx hb hd w => lv_lsub hx hb hd w) kk
theorem xs_lmul (hc : μ.2.2.2.2.2[k]? = some .lmul) (kk : xW l x d mc ms μ n0 Q cl (k + 1) L (.long (f * g) :: S) H uc us) : xW l x d mc ms μ n0 Q cl k L (.long g :: .long f :: S) H uc us :=
  xW.pure (S' := .long (f * g) :: S) hc (fun p e s m args below meth c ls Hh locs Qw pc hx hb hd w => lv_lmul hx hb hd w) kk
theorem xs_land (hc : μ.2.2.2.2.2[k]? = some .land) (kk : xW l x d mc ms μ n0 Q cl (k + 1) L (.long (f &&& g) :: S) H uc us) : xW l x d mc ms μ n0 Q cl k L (.long g :: .long f :: S) H uc us :=
  xW.pure (S' := .long (f &&& g) :: S) hc (fun p e s m args below meth c ls Hh locs Qw pc hx hb hd w => lv_land hx hb hd w) kk
theorem xs_lor (hc : μ.2.2.2.2.2[k]? = some .lor) (kk : xW l x d mc ms μ n0 Q cl (k + 1) L (.long (f ||| g) :: S) H uc us) : xW l x d mc ms μ n0 Q cl k L (.long g :: .long f :: S) H uc us :=
  xW.pure (S' := .long (f ||| g) :: S) hc (fun p e s m args below meth c ls Hh locs Qw pc hx hb hd w => lv_lor hx hb hd w) kk
theorem xs_lxor (hc : μ.2.2.2.2.2[k]? = some .lxor) (kk : xW l x d mc ms μ n0 Q cl (k + 1) L (.long (f ^^^ g) :: S) H uc us) : xW l x d mc ms μ n0 Q cl k L (.long g :: .long f :: S) H uc us :=
  xW.pure (S' := .long (f ^^^ g) :: S) hc (fun p e s m args below meth c ls Hh locs Qw pc hx hb hd w => lv_lxor hx hb hd w) kk
theorem xs_ldiv (hc : μ.2.2.2.2.2[k]? = some .ldiv) (hne : ¬ g = 0) (kk : xW l x d mc ms μ n0 Q cl (k + 1) L (.long (f / g) :: S) H uc us) : xW l x d mc ms μ n0 Q cl k L (.long g :: .long f :: S) H uc us :=
  xW.pure (S' := .long (f / g) :: S) hc (fun p e s m args below meth c ls Hh locs Qw pc hx hb hd w => lv_ldiv hx hb hd hne w) kk
theorem xs_lrem (hc : μ.2.2.2.2.2[k]? = some .lrem) (hne : ¬ g = 0) (kk : xW l x d mc ms μ n0 Q cl (k + 1) L (.long (f - f / g * g) :: S) H uc us) : xW l x d mc ms μ n0 Q cl k L (.long g :: .long f :: S) H uc us :=
  xW.pure (S' := .long (f - f / g * g) :: S) hc (fun p e s m args below meth c ls Hh locs Qw pc hx hb hd w => lv_lrem hx hb hd hne w) kk
theorem xs_lshl (hc : μ.2.2.2.2.2[k]? = some .lshl) (kk : xW l x d mc ms μ n0 Q cl (k + 1) L (.long (f <<< (b.toInt64 &&& 63)) :: S) H uc us) : xW l x d mc ms μ n0 Q cl k L (.int b :: .long f :: S) H uc us :=
  xW.pure (S' := .long (f <<< (b.toInt64 &&& 63)) :: S) hc (fun p e s m args below meth c ls Hh locs Qw pc hx hb hd w => lv_lshl hx hb hd rfl w) kk
theorem xs_lshr (hc : μ.2.2.2.2.2[k]? = some .lshr) (kk : xW l x d mc ms μ n0 Q cl (k + 1) L (.long (f >>> (b.toInt64 &&& 63)) :: S) H uc us) : xW l x d mc ms μ n0 Q cl k L (.int b :: .long f :: S) H uc us :=
  xW.pure (S' := .long (f >>> (b.toInt64 &&& 63)) :: S) hc (fun p e s m args below meth c ls Hh locs Qw pc hx hb hd w => lv_lshr hx hb hd rfl w) kk
theorem xs_i2l (hc : μ.2.2.2.2.2[k]? = some .i2l) (kk : xW l x d mc ms μ n0 Q cl (k + 1) L (.long a.toInt64 :: S) H uc us) : xW l x d mc ms μ n0 Q cl k L (.int a :: S) H uc us :=
  xW.pure (S' := .long a.toInt64 :: S) hc (fun p e s m args below meth c ls Hh locs Qw pc hx hb hd w => lv_i2l hx hb hd rfl w) kk
theorem xs_l2i (hc : μ.2.2.2.2.2[k]? = some .l2i) (kk : xW l x d mc ms μ n0 Q cl (k + 1) L (.int f.toInt32 :: S) H uc us) : xW l x d mc ms μ n0 Q cl k L (.long f :: S) H uc us :=
  xW.pure (S' := .int f.toInt32 :: S) hc (fun p e s m args below meth c ls Hh locs Qw pc hx hb hd w => lv_l2i hx hb hd rfl w) kk
theorem xs_i2b (hc : μ.2.2.2.2.2[k]? = some .i2b) (kk : xW l x d mc ms μ n0 Q cl (k + 1) L (.int a.toInt8.toInt32 :: S) H uc us) : xW l x d mc ms μ n0 Q cl k L (.int a :: S) H uc us :=
  xW.pure (S' := .int a.toInt8.toInt32 :: S) hc (fun p e s m args below meth c ls Hh locs Qw pc hx hb hd w => lv_i2b hx hb hd rfl w) kk
theorem xs_dup (hc : μ.2.2.2.2.2[k]? = some .dup) (hv : v.category = 1) (kk : xW l x d mc ms μ n0 Q cl (k + 1) L (v :: v :: S) H uc us) : xW l x d mc ms μ n0 Q cl k L (v :: S) H uc us :=
  xW.pure (S' := v :: v :: S) hc (fun p e s m args below meth c ls Hh locs Qw pc hx hb hd w => lv_dup hx hb hd ((x_rv_cat x v).trans hv) w) kk
theorem xs_pop (hc : μ.2.2.2.2.2[k]? = some .pop) (hv : v.category = 1) (kk : xW l x d mc ms μ n0 Q cl (k + 1) L (S) H uc us) : xW l x d mc ms μ n0 Q cl k L (v :: S) H uc us :=
  xW.pure (S' := S) hc (fun p e s m args below meth c ls Hh locs Qw pc hx hb hd w => lv_pop hx hb hd ((x_rv_cat x v).trans hv) w) kk
theorem xs_dup2 (hc : μ.2.2.2.2.2[k]? = some .dup2) (hv : v.category = 1) (hw : w.category = 1) (kk : xW l x d mc ms μ n0 Q cl (k + 1) L (v :: w :: v :: w :: S) H uc us) : xW l x d mc ms μ n0 Q cl k L (v :: w :: S) H uc us :=
  xW.pure (S' := v :: w :: v :: w :: S) hc (fun p e s m args below meth c ls Hh locs Qw pc hx hb hd z => lv_dup2_11 hx hb hd ((x_rv_cat x v).trans hv) ((x_rv_cat x w).trans hw) z) kk
theorem xs_lcmp (hc : μ.2.2.2.2.2[k]? = some .lcmp) (kk : xW l x d mc ms μ n0 Q cl (k + 1) L (.int (lg_cmp f g) :: S) H uc us) : xW l x d mc ms μ n0 Q cl k L (.long g :: .long f :: S) H uc us :=
  xW.pure (S' := .int (lg_cmp f g) :: S) hc (fun p e s m args below meth c ls Hh locs Qw pc hx hb hd w => W.lcmp hx hb hd w) kk
theorem xs_iload (hc : μ.2.2.2.2.2[k]? = some (.iload i)) (hl : L[i]? = some (some (.int a))) (kk : xW l x d mc ms μ n0 Q cl (k + 1) L (.int a :: S) H uc us) : xW l x d mc ms μ n0 Q cl k L S H uc us :=
  xW.go (fun p e s m args below meth c ls Hh locs Qw E R hS hL w => lv_iload E.1 E.2.1 (E.dec hc) (hL.get hl) (by have := w ls hL; rw [x_pcS _ _ _ hc] at this; exact this)) kk
theorem xs_iload_n {n : Fin 4} (hc : μ.2.2.2.2.2[k]? = some (.iload_n n)) (hl : L[(n : Nat)]? = some (some (.int a))) (kk : xW l x d mc ms μ n0 Q cl (k + 1) L (.int a :: S) H uc us) : xW l x d mc ms μ n0 Q cl k L S H uc us :=
  xW.go (fun p e s m args below meth c ls Hh locs Qw E R hS hL w => lv_iload_n E.1 E.2.1 (E.dec hc) rfl (hL.get hl) (by have := w ls hL; rw [x_pcS _ _ _ hc] at this; exact this)) kk
theorem xs_lload (hc : μ.2.2.2.2.2[k]? = some (.lload i)) (hl : L[i]? = some (some (.long f))) (kk : xW l x d mc ms μ n0 Q cl (k + 1) L (.long f :: S) H uc us) : xW l x d mc ms μ n0 Q cl k L S H uc us :=
  xW.go (fun p e s m args below meth c ls Hh locs Qw E R hS hL w => lv_lload E.1 E.2.1 (E.dec hc) (hL.get hl) (by have := w ls hL; rw [x_pcS _ _ _ hc] at this; exact this)) kk
theorem xs_lload_n {n : Fin 4} (hc : μ.2.2.2.2.2[k]? = some (.lload_n n)) (hl : L[(n : Nat)]? = some (some (.long f))) (kk : xW l x d mc ms μ n0 Q cl (k + 1) L (.long f :: S) H uc us) : xW l x d mc ms μ n0 Q cl k L S H uc us :=
  xW.go (fun p e s m args below meth c ls Hh locs Qw E R hS hL w => lv_lload_n E.1 E.2.1 (E.dec hc) rfl (hL.get hl) (by have := w ls hL; rw [x_pcS _ _ _ hc] at this; exact this)) kk
theorem xs_aload (hc : μ.2.2.2.2.2[k]? = some (.aload i)) (hl : L[i]? = some (some (.ref r))) (kk : xW l x d mc ms μ n0 Q cl (k + 1) L (.ref r :: S) H uc us) : xW l x d mc ms μ n0 Q cl k L S H uc us :=
  xW.go (fun p e s m args below meth c ls Hh locs Qw E R hS hL w => lv_aload E.1 E.2.1 (E.dec hc) (hL.get hl) (by have := w ls hL; rw [x_pcS _ _ _ hc] at this; exact this)) kk
theorem xs_aload_n {n : Fin 4} (hc : μ.2.2.2.2.2[k]? = some (.aload_n n)) (hl : L[(n : Nat)]? = some (some (.ref r))) (kk : xW l x d mc ms μ n0 Q cl (k + 1) L (.ref r :: S) H uc us) : xW l x d mc ms μ n0 Q cl k L S H uc us :=
  xW.go (fun p e s m args below meth c ls Hh locs Qw E R hS hL w => lv_aload_n E.1 E.2.1 (E.dec hc) rfl (hL.get hl) (by have := w ls hL; rw [x_pcS _ _ _ hc] at this; exact this)) kk
theorem xs_istore (hc : μ.2.2.2.2.2[k]? = some (.istore i)) {L' : xL} (hL' : x_st L i (.int a) = L') (hok : x_sok L i = true) (kk : xW l x d mc ms μ n0 Q cl (k + 1) L' S H uc us) : xW l x d mc ms μ n0 Q cl k L (.int a :: S) H uc us := by
  subst hL'
  refine xW.go (fun p e s m args below meth c ls Hh locs Qw E R hS hL w => ?_) kk
  refine lv_istore E.1 E.2.1 (E.dec hc) (xLv.has hL) (x_sok.lt hL hok) rfl (fun ls' h => ?_)
  have := w ls' (x_sok.put hL hok h)
  rw [x_pcS _ _ _ hc] at this
  exact this
theorem xs_istore_n {n : Fin 4} (hc : μ.2.2.2.2.2[k]? = some (.istore_n n)) {L' : xL} (hL' : x_st L (n : Nat) (.int a) = L') (hok : x_sok L (n : Nat) = true) (kk : xW l x d mc ms μ n0 Q cl (k + 1) L' S H uc us) : xW l x d mc ms μ n0 Q cl k L (.int a :: S) H uc us := by
  subst hL'
  refine xW.go (fun p e s m args below meth c ls Hh locs Qw E R hS hL w => ?_) kk
  refine lv_istore_n E.1 E.2.1 (E.dec hc) rfl (xLv.has hL) (x_sok.lt hL hok) rfl (fun ls' h => ?_)
  have := w ls' (x_sok.put hL hok h)
  rw [x_pcS _ _ _ hc] at this
  exact this
theorem xs_lstore (hc : μ.2.2.2.2.2[k]? = some (.lstore i)) {L' : xL} (hL' : x_st2 L i (.long f) = L') (hok : x_sok2 L i = true) (kk : xW l x d mc ms μ n0 Q cl (k + 1) L' S H uc us) : xW l x d mc ms μ n0 Q cl k L (.long f :: S) H uc us := by
  subst hL'
  refine xW.go (fun p e s m args below meth c ls Hh locs Qw E R hS hL w => ?_) kk
  refine lv_lstore E.1 E.2.1 (E.dec hc) (xLv.has hL) (x_sok2.lt hL hok) rfl (fun ls' h => ?_)
  have := w ls' (x_sok2.put hL hok h)
  rw [x_pcS _ _ _ hc] at this
  exact this
theorem xs_lstore_n {n : Fin 4} (hc : μ.2.2.2.2.2[k]? = some (.lstore_n n)) {L' : xL} (hL' : x_st2 L (n : Nat) (.long f) = L') (hok : x_sok2 L (n : Nat) = true) (kk : xW l x d mc ms μ n0 Q cl (k + 1) L' S H uc us) : xW l x d mc ms μ n0 Q cl k L (.long f :: S) H uc us := by
  subst hL'
  refine xW.go (fun p e s m args below meth c ls Hh locs Qw E R hS hL w => ?_) kk
  refine lv_lstore_n E.1 E.2.1 (E.dec hc) rfl (xLv.has hL) (x_sok2.lt hL hok) rfl (fun ls' h => ?_)
  have := w ls' (x_sok2.put hL hok h)
  rw [x_pcS _ _ _ hc] at this
  exact this
theorem xs_astore (hc : μ.2.2.2.2.2[k]? = some (.astore i)) {L' : xL} (hL' : x_st L i (.ref r) = L') (hok : x_sok L i = true) (kk : xW l x d mc ms μ n0 Q cl (k + 1) L' S H uc us) : xW l x d mc ms μ n0 Q cl k L (.ref r :: S) H uc us := by
  subst hL'
  refine xW.go (fun p e s m args below meth c ls Hh locs Qw E R hS hL w => ?_) kk
  refine lv_astore E.1 E.2.1 (E.dec hc) (xLv.has hL) (x_sok.lt hL hok) rfl (fun ls' h => ?_)
  have := w ls' (x_sok.put hL hok h)
  rw [x_pcS _ _ _ hc] at this
  exact this
theorem xs_astore_n {n : Fin 4} (hc : μ.2.2.2.2.2[k]? = some (.astore_n n)) {L' : xL} (hL' : x_st L (n : Nat) (.ref r) = L') (hok : x_sok L (n : Nat) = true) (kk : xW l x d mc ms μ n0 Q cl (k + 1) L' S H uc us) : xW l x d mc ms μ n0 Q cl k L (.ref r :: S) H uc us := by
  subst hL'
  refine xW.go (fun p e s m args below meth c ls Hh locs Qw E R hS hL w => ?_) kk
  refine lv_astore_n E.1 E.2.1 (E.dec hc) rfl (xLv.has hL) (x_sok.lt hL hok) rfl (fun ls' h => ?_)
  have := w ls' (x_sok.put hL hok h)
  rw [x_pcS _ _ _ hc] at this
  exact this
theorem xs_iinc {n : Int} (hc : μ.2.2.2.2.2[k]? = some (.iinc i n)) {L' : xL} (hl : L[i]? = some (some (.int a))) (hL' : x_st L i (.int (a + Int32.ofInt n)) = L') (hok : x_sok L i = true) (kk : xW l x d mc ms μ n0 Q cl (k + 1) L' S H uc us) : xW l x d mc ms μ n0 Q cl k L S H uc us := by
  subst hL'
  refine xW.go (fun p e s m args below meth c ls Hh locs Qw E R hS hL w => ?_) kk
  obtain ⟨j, hj⟩ := xLv.place hL hl
  refine lv_iinc E.1 E.2.1 (E.dec hc) (xLv.has hL) hj rfl (x_sok.lt hL hok) rfl (fun ls' h => ?_)
  have := w ls' (x_sok.put hL hok h)
  rw [x_pcS _ _ _ hc] at this
  exact this
theorem xs_if_eq {off : Int} {k' : Nat} (hc : μ.2.2.2.2.2[k]? = some (.ifCond .eq off)) (ht : (x_pc μ.2.2.2.2.2 k : Int) + off = (x_pc μ.2.2.2.2.2 k' : Int)) (k1 : a = 0 → xW l x d mc ms μ n0 Q cl k' L S H uc us) (k2 : ¬ a = 0 → xW l x d mc ms μ n0 Q cl (k + 1) L S H uc us) : xW l x d mc ms μ n0 Q cl k L (.int a :: S) H uc us := by
  intro p e s m args below meth c ls Hh locs E R hS hL hn hcl
  refine lv_if_eq E.1 E.2.1 (E.dec hc) ht (fun h => k1 h p e s m args below meth c ls Hh locs E R hS hL hn hcl) (fun h => ?_)
  have := k2 h p e s m args below meth c ls Hh locs E R hS hL hn hcl
  rw [x_pcS _ _ _ hc] at this
  exact this
theorem xs_icmp_eq {off : Int} {k' : Nat} (hc : μ.2.2.2.2.2[k]? = some (.if_icmp .eq off)) (ht : (x_pc μ.2.2.2.2.2 k : Int) + off = (x_pc μ.2.2.2.2.2 k' : Int)) (k1 : a = b → xW l x d mc ms μ n0 Q cl k' L S H uc us) (k2 : ¬ a = b → xW l x d mc ms μ n0 Q cl (k + 1) L S H uc us) : xW l x d mc ms μ n0 Q cl k L (.int b :: .int a :: S) H uc us := by
  intro p e s m args below meth c ls Hh locs E R hS hL hn hcl
  refine lv_icmp_eq E.1 E.2.1 (E.dec hc) ht (fun h => k1 h p e s m args below meth c ls Hh locs E R hS hL hn hcl) (fun h => ?_)
  have := k2 h p e s m args below meth c ls Hh locs E R hS hL hn hcl
  rw [x_pcS _ _ _ hc] at this
  exact this
theorem xs_if_ne {off : Int} {k' : Nat} (hc : μ.2.2.2.2.2[k]? = some (.ifCond .ne off)) (ht : (x_pc μ.2.2.2.2.2 k : Int) + off = (x_pc μ.2.2.2.2.2 k' : Int)) (k1 : ¬ a = 0 → xW l x d mc ms μ n0 Q cl k' L S H uc us) (k2 : a = 0 → xW l x d mc ms μ n0 Q cl (k + 1) L S H uc us) : xW l x d mc ms μ n0 Q cl k L (.int a :: S) H uc us := by
  intro p e s m args below meth c ls Hh locs E R hS hL hn hcl
  refine lv_if_ne E.1 E.2.1 (E.dec hc) ht (fun h => k1 h p e s m args below meth c ls Hh locs E R hS hL hn hcl) (fun h => ?_)
  have := k2 h p e s m args below meth c ls Hh locs E R hS hL hn hcl
  rw [x_pcS _ _ _ hc] at this
  exact this
theorem xs_icmp_ne {off : Int} {k' : Nat} (hc : μ.2.2.2.2.2[k]? = some (.if_icmp .ne off)) (ht : (x_pc μ.2.2.2.2.2 k : Int) + off = (x_pc μ.2.2.2.2.2 k' : Int)) (k1 : ¬ a = b → xW l x d mc ms μ n0 Q cl k' L S H uc us) (k2 : a = b → xW l x d mc ms μ n0 Q cl (k + 1) L S H uc us) : xW l x d mc ms μ n0 Q cl k L (.int b :: .int a :: S) H uc us := by
  intro p e s m args below meth c ls Hh locs E R hS hL hn hcl
  refine lv_icmp_ne E.1 E.2.1 (E.dec hc) ht (fun h => k1 h p e s m args below meth c ls Hh locs E R hS hL hn hcl) (fun h => ?_)
  have := k2 h p e s m args below meth c ls Hh locs E R hS hL hn hcl
  rw [x_pcS _ _ _ hc] at this
  exact this
theorem xs_if_lt {off : Int} {k' : Nat} (hc : μ.2.2.2.2.2[k]? = some (.ifCond .lt off)) (ht : (x_pc μ.2.2.2.2.2 k : Int) + off = (x_pc μ.2.2.2.2.2 k' : Int)) (k1 : a < 0 → xW l x d mc ms μ n0 Q cl k' L S H uc us) (k2 : ¬ a < 0 → xW l x d mc ms μ n0 Q cl (k + 1) L S H uc us) : xW l x d mc ms μ n0 Q cl k L (.int a :: S) H uc us := by
  intro p e s m args below meth c ls Hh locs E R hS hL hn hcl
  refine lv_if_lt E.1 E.2.1 (E.dec hc) ht (fun h => k1 h p e s m args below meth c ls Hh locs E R hS hL hn hcl) (fun h => ?_)
  have := k2 h p e s m args below meth c ls Hh locs E R hS hL hn hcl
  rw [x_pcS _ _ _ hc] at this
  exact this
theorem xs_icmp_lt {off : Int} {k' : Nat} (hc : μ.2.2.2.2.2[k]? = some (.if_icmp .lt off)) (ht : (x_pc μ.2.2.2.2.2 k : Int) + off = (x_pc μ.2.2.2.2.2 k' : Int)) (k1 : a < b → xW l x d mc ms μ n0 Q cl k' L S H uc us) (k2 : ¬ a < b → xW l x d mc ms μ n0 Q cl (k + 1) L S H uc us) : xW l x d mc ms μ n0 Q cl k L (.int b :: .int a :: S) H uc us := by
  intro p e s m args below meth c ls Hh locs E R hS hL hn hcl
  refine lv_icmp_lt E.1 E.2.1 (E.dec hc) ht (fun h => k1 h p e s m args below meth c ls Hh locs E R hS hL hn hcl) (fun h => ?_)
  have := k2 h p e s m args below meth c ls Hh locs E R hS hL hn hcl
  rw [x_pcS _ _ _ hc] at this
  exact this
theorem xs_if_ge {off : Int} {k' : Nat} (hc : μ.2.2.2.2.2[k]? = some (.ifCond .ge off)) (ht : (x_pc μ.2.2.2.2.2 k : Int) + off = (x_pc μ.2.2.2.2.2 k' : Int)) (k1 : 0 ≤ a → xW l x d mc ms μ n0 Q cl k' L S H uc us) (k2 : ¬ 0 ≤ a → xW l x d mc ms μ n0 Q cl (k + 1) L S H uc us) : xW l x d mc ms μ n0 Q cl k L (.int a :: S) H uc us := by
  intro p e s m args below meth c ls Hh locs E R hS hL hn hcl
  refine lv_if_ge E.1 E.2.1 (E.dec hc) ht (fun h => k1 h p e s m args below meth c ls Hh locs E R hS hL hn hcl) (fun h => ?_)
  have := k2 h p e s m args below meth c ls Hh locs E R hS hL hn hcl
  rw [x_pcS _ _ _ hc] at this
  exact this
theorem xs_icmp_ge {off : Int} {k' : Nat} (hc : μ.2.2.2.2.2[k]? = some (.if_icmp .ge off)) (ht : (x_pc μ.2.2.2.2.2 k : Int) + off = (x_pc μ.2.2.2.2.2 k' : Int)) (k1 : b ≤ a → xW l x d mc ms μ n0 Q cl k' L S H uc us) (k2 : ¬ b ≤ a → xW l x d mc ms μ n0 Q cl (k + 1) L S H uc us) : xW l x d mc ms μ n0 Q cl k L (.int b :: .int a :: S) H uc us := by
  intro p e s m args below meth c ls Hh locs E R hS hL hn hcl
  refine lv_icmp_ge E.1 E.2.1 (E.dec hc) ht (fun h => k1 h p e s m args below meth c ls Hh locs E R hS hL hn hcl) (fun h => ?_)
  have := k2 h p e s m args below meth c ls Hh locs E R hS hL hn hcl
  rw [x_pcS _ _ _ hc] at this
  exact this
theorem xs_if_gt {off : Int} {k' : Nat} (hc : μ.2.2.2.2.2[k]? = some (.ifCond .gt off)) (ht : (x_pc μ.2.2.2.2.2 k : Int) + off = (x_pc μ.2.2.2.2.2 k' : Int)) (k1 : 0 < a → xW l x d mc ms μ n0 Q cl k' L S H uc us) (k2 : ¬ 0 < a → xW l x d mc ms μ n0 Q cl (k + 1) L S H uc us) : xW l x d mc ms μ n0 Q cl k L (.int a :: S) H uc us := by
  intro p e s m args below meth c ls Hh locs E R hS hL hn hcl
  refine lv_if_gt E.1 E.2.1 (E.dec hc) ht (fun h => k1 h p e s m args below meth c ls Hh locs E R hS hL hn hcl) (fun h => ?_)
  have := k2 h p e s m args below meth c ls Hh locs E R hS hL hn hcl
  rw [x_pcS _ _ _ hc] at this
  exact this
theorem xs_icmp_gt {off : Int} {k' : Nat} (hc : μ.2.2.2.2.2[k]? = some (.if_icmp .gt off)) (ht : (x_pc μ.2.2.2.2.2 k : Int) + off = (x_pc μ.2.2.2.2.2 k' : Int)) (k1 : b < a → xW l x d mc ms μ n0 Q cl k' L S H uc us) (k2 : ¬ b < a → xW l x d mc ms μ n0 Q cl (k + 1) L S H uc us) : xW l x d mc ms μ n0 Q cl k L (.int b :: .int a :: S) H uc us := by
  intro p e s m args below meth c ls Hh locs E R hS hL hn hcl
  refine lv_icmp_gt E.1 E.2.1 (E.dec hc) ht (fun h => k1 h p e s m args below meth c ls Hh locs E R hS hL hn hcl) (fun h => ?_)
  have := k2 h p e s m args below meth c ls Hh locs E R hS hL hn hcl
  rw [x_pcS _ _ _ hc] at this
  exact this
theorem xs_if_le {off : Int} {k' : Nat} (hc : μ.2.2.2.2.2[k]? = some (.ifCond .le off)) (ht : (x_pc μ.2.2.2.2.2 k : Int) + off = (x_pc μ.2.2.2.2.2 k' : Int)) (k1 : a ≤ 0 → xW l x d mc ms μ n0 Q cl k' L S H uc us) (k2 : ¬ a ≤ 0 → xW l x d mc ms μ n0 Q cl (k + 1) L S H uc us) : xW l x d mc ms μ n0 Q cl k L (.int a :: S) H uc us := by
  intro p e s m args below meth c ls Hh locs E R hS hL hn hcl
  refine lv_if_le E.1 E.2.1 (E.dec hc) ht (fun h => k1 h p e s m args below meth c ls Hh locs E R hS hL hn hcl) (fun h => ?_)
  have := k2 h p e s m args below meth c ls Hh locs E R hS hL hn hcl
  rw [x_pcS _ _ _ hc] at this
  exact this
theorem xs_icmp_le {off : Int} {k' : Nat} (hc : μ.2.2.2.2.2[k]? = some (.if_icmp .le off)) (ht : (x_pc μ.2.2.2.2.2 k : Int) + off = (x_pc μ.2.2.2.2.2 k' : Int)) (k1 : a ≤ b → xW l x d mc ms μ n0 Q cl k' L S H uc us) (k2 : ¬ a ≤ b → xW l x d mc ms μ n0 Q cl (k + 1) L S H uc us) : xW l x d mc ms μ n0 Q cl k L (.int b :: .int a :: S) H uc us := by
  intro p e s m args below meth c ls Hh locs E R hS hL hn hcl
  refine lv_icmp_le E.1 E.2.1 (E.dec hc) ht (fun h => k1 h p e s m args below meth c ls Hh locs E R hS hL hn hcl) (fun h => ?_)
  have := k2 h p e s m args below meth c ls Hh locs E R hS hL hn hcl
  rw [x_pcS _ _ _ hc] at this
  exact this
theorem xs_goto {off : Int} {k' : Nat} (hc : μ.2.2.2.2.2[k]? = some (.goto off)) (ht : (x_pc μ.2.2.2.2.2 k : Int) + off = (x_pc μ.2.2.2.2.2 k' : Int)) (kk : xW l x d mc ms μ n0 Q cl k' L S H uc us) : xW l x d mc ms μ n0 Q cl k L S H uc us :=
  fun p e s m args below meth c ls Hh locs E R hS hL hn hcl => lv_goto E.1 E.2.1 (E.dec hc) ht (kk p e s m args below meth c ls Hh locs E R hS hL hn hcl)
end XRows
end
section
theorem x_tb1 {w : Cond} (h : w ∈ tables_1_1) (hg : x_gw w = true := by rfl) : w ∈ x_tw := List.mem_filter.mpr ⟨List.mem_append_right _ (show w ∈ tables_1_1 ++ (tables_1_2 ++ (tables_1_3 ++ (tables_1_4 ++ (tables_1_5 ++ (tables_1_6 ++ tables_1_7))))) from List.mem_append_left _ h), hg⟩
theorem x_tb2 {w : Cond} (h : w ∈ tables_1_2) (hg : x_gw w = true := by rfl) : w ∈ x_tw := List.mem_filter.mpr ⟨List.mem_append_right _ (show w ∈ tables_1_1 ++ (tables_1_2 ++ (tables_1_3 ++ (tables_1_4 ++ (tables_1_5 ++ (tables_1_6 ++ tables_1_7))))) from List.mem_append_right _ (List.mem_append_left _ h)), hg⟩
theorem x_tb3 {w : Cond} (h : w ∈ tables_1_3) (hg : x_gw w = true := by rfl) : w ∈ x_tw := List.mem_filter.mpr ⟨List.mem_append_right _ (show w ∈ tables_1_1 ++ (tables_1_2 ++ (tables_1_3 ++ (tables_1_4 ++ (tables_1_5 ++ (tables_1_6 ++ tables_1_7))))) from List.mem_append_right _ (List.mem_append_right _ (List.mem_append_left _ h))), hg⟩
theorem x_tb4 {w : Cond} (h : w ∈ tables_1_4) (hg : x_gw w = true := by rfl) : w ∈ x_tw := List.mem_filter.mpr ⟨List.mem_append_right _ (show w ∈ tables_1_1 ++ (tables_1_2 ++ (tables_1_3 ++ (tables_1_4 ++ (tables_1_5 ++ (tables_1_6 ++ tables_1_7))))) from List.mem_append_right _ (List.mem_append_right _ (List.mem_append_right _ (List.mem_append_left _ h)))), hg⟩
theorem x_tb5 {w : Cond} (h : w ∈ tables_1_5) (hg : x_gw w = true := by rfl) : w ∈ x_tw := List.mem_filter.mpr ⟨List.mem_append_right _ (show w ∈ tables_1_1 ++ (tables_1_2 ++ (tables_1_3 ++ (tables_1_4 ++ (tables_1_5 ++ (tables_1_6 ++ tables_1_7))))) from List.mem_append_right _ (List.mem_append_right _ (List.mem_append_right _ (List.mem_append_right _ (List.mem_append_left _ h))))), hg⟩
theorem x_tb6 {w : Cond} (h : w ∈ tables_1_6) (hg : x_gw w = true := by rfl) : w ∈ x_tw := List.mem_filter.mpr ⟨List.mem_append_right _ (show w ∈ tables_1_1 ++ (tables_1_2 ++ (tables_1_3 ++ (tables_1_4 ++ (tables_1_5 ++ (tables_1_6 ++ tables_1_7))))) from List.mem_append_right _ (List.mem_append_right _ (List.mem_append_right _ (List.mem_append_right _ (List.mem_append_right _ (List.mem_append_left _ h)))))), hg⟩
theorem x_tb7 {w : Cond} (h : w ∈ tables_1_7) (hg : x_gw w = true := by rfl) : w ∈ x_tw := List.mem_filter.mpr ⟨List.mem_append_right _ (show w ∈ tables_1_1 ++ (tables_1_2 ++ (tables_1_3 ++ (tables_1_4 ++ (tables_1_5 ++ (tables_1_6 ++ tables_1_7))))) from List.mem_append_right _ (List.mem_append_right _ (List.mem_append_right _ (List.mem_append_right _ (List.mem_append_right _ (List.mem_append_right _ (h))))))), hg⟩
theorem x_in0 : ∀ k, k < 6 → u_lay "RowPacker" x_T0 k ∈ x_tw
  | 0, _ => x_tb2 (List.mem_of_getElem? (i := 157) rfl)
  | 1, _ => x_tb2 (List.mem_of_getElem? (i := 159) rfl)
  | 2, _ => x_tb2 (List.mem_of_getElem? (i := 161) rfl)
  | 3, _ => x_tb2 (List.mem_of_getElem? (i := 163) rfl)
  | 4, _ => x_tb2 (List.mem_of_getElem? (i := 165) rfl)
  | 5, _ => x_tb2 (List.mem_of_getElem? (i := 167) rfl)
  | k + 6, h => absurd h (by omega)
theorem x_tk0 : ∀ k, k < 6 → parseFieldDescriptor (x_T0 k).2.2.1 = some (x_ty0 k) := by decide +kernel
theorem x_nm0 : ∀ a, a < 6 → ∀ b, b < 6 → a ≠ b → (x_T0 a).2.1 ≠ (x_T0 b).2.1 := by decide +kernel
theorem x_in1 : ∀ k, k < 3 → u_lay "RowPacker$BitWriter" x_T1 k ∈ x_tw
  | 0, _ => x_tb2 (List.mem_of_getElem? (i := 6) rfl)
  | 1, _ => x_tb2 (List.mem_of_getElem? (i := 8) rfl)
  | 2, _ => x_tb2 (List.mem_of_getElem? (i := 10) rfl)
  | k + 3, h => absurd h (by omega)
theorem x_tk1 : ∀ k, k < 3 → parseFieldDescriptor (x_T1 k).2.2.1 = some (x_ty1 k) := by decide +kernel
theorem x_nm1 : ∀ a, a < 3 → ∀ b, b < 3 → a ≠ b → (x_T1 a).2.1 ≠ (x_T1 b).2.1 := by decide +kernel
theorem x_in2 : ∀ k, k < 7 → u_lay "RowPacker$Finder" x_T2 k ∈ x_tw
  | 0, _ => x_tb1 (List.mem_of_getElem? (i := 222) rfl)
  | 1, _ => x_tb1 (List.mem_of_getElem? (i := 224) rfl)
  | 2, _ => x_tb1 (List.mem_of_getElem? (i := 226) rfl)
  | 3, _ => x_tb1 (List.mem_of_getElem? (i := 228) rfl)
  | 4, _ => x_tb1 (List.mem_of_getElem? (i := 230) rfl)
  | 5, _ => x_tb1 (List.mem_of_getElem? (i := 232) rfl)
  | 6, _ => x_tb1 (List.mem_of_getElem? (i := 234) rfl)
  | k + 7, h => absurd h (by omega)
theorem x_tk2 : ∀ k, k < 7 → parseFieldDescriptor (x_T2 k).2.2.1 = some (x_ty2 k) := by decide +kernel
theorem x_nm2 : ∀ a, a < 7 → ∀ b, b < 7 → a ≠ b → (x_T2 a).2.1 ≠ (x_T2 b).2.1 := by decide +kernel
theorem x_in3 : ∀ k, k < 12 → u_lay "RowPacker$MadeCodes" x_T3 k ∈ x_tw
  | 0, _ => x_tb1 (List.mem_of_getElem? (i := 181) rfl)
  | 1, _ => x_tb1 (List.mem_of_getElem? (i := 183) rfl)
  | 2, _ => x_tb1 (List.mem_of_getElem? (i := 185) rfl)
  | 3, _ => x_tb1 (List.mem_of_getElem? (i := 187) rfl)
  | 4, _ => x_tb1 (List.mem_of_getElem? (i := 189) rfl)
  | 5, _ => x_tb1 (List.mem_of_getElem? (i := 191) rfl)
  | 6, _ => x_tb1 (List.mem_of_getElem? (i := 193) rfl)
  | 7, _ => x_tb1 (List.mem_of_getElem? (i := 195) rfl)
  | 8, _ => x_tb1 (List.mem_of_getElem? (i := 197) rfl)
  | 9, _ => x_tb1 (List.mem_of_getElem? (i := 199) rfl)
  | 10, _ => x_tb1 (List.mem_of_getElem? (i := 201) rfl)
  | 11, _ => x_tb1 (List.mem_of_getElem? (i := 203) rfl)
  | k + 12, h => absurd h (by omega)
theorem x_tk3 : ∀ k, k < 12 → parseFieldDescriptor (x_T3 k).2.2.1 = some (x_ty3 k) := by decide +kernel
theorem x_nm3 : ∀ a, a < 12 → ∀ b, b < 12 → a ≠ b → (x_T3 a).2.1 ≠ (x_T3 b).2.1 := by decide +kernel
theorem x_in4 : ∀ k, k < 16 → u_lay "RowPacker$Packer" x_T4 k ∈ x_tw
  | 0, _ => x_tb2 (List.mem_of_getElem? (i := 43) rfl)
  | 1, _ => x_tb2 (List.mem_of_getElem? (i := 45) rfl)
  | 2, _ => x_tb2 (List.mem_of_getElem? (i := 47) rfl)
  | 3, _ => x_tb2 (List.mem_of_getElem? (i := 49) rfl)
  | 4, _ => x_tb2 (List.mem_of_getElem? (i := 51) rfl)
  | 5, _ => x_tb2 (List.mem_of_getElem? (i := 53) rfl)
  | 6, _ => x_tb2 (List.mem_of_getElem? (i := 55) rfl)
  | 7, _ => x_tb2 (List.mem_of_getElem? (i := 57) rfl)
  | 8, _ => x_tb2 (List.mem_of_getElem? (i := 59) rfl)
  | 9, _ => x_tb2 (List.mem_of_getElem? (i := 61) rfl)
  | 10, _ => x_tb2 (List.mem_of_getElem? (i := 63) rfl)
  | 11, _ => x_tb2 (List.mem_of_getElem? (i := 65) rfl)
  | 12, _ => x_tb2 (List.mem_of_getElem? (i := 67) rfl)
  | 13, _ => x_tb2 (List.mem_of_getElem? (i := 69) rfl)
  | 14, _ => x_tb2 (List.mem_of_getElem? (i := 71) rfl)
  | 15, _ => x_tb2 (List.mem_of_getElem? (i := 73) rfl)
  | k + 16, h => absurd h (by omega)
theorem x_tk4 : ∀ k, k < 16 → parseFieldDescriptor (x_T4 k).2.2.1 = some (x_ty4 k) := by decide +kernel
theorem x_nm4 : ∀ a, a < 16 → ∀ b, b < 16 → a ≠ b → (x_T4 a).2.1 ≠ (x_T4 b).2.1 := by decide +kernel
theorem x_in5 : ∀ k, k < 4 → u_lay "RowPacker$ReadCode" x_T5 k ∈ x_tw
  | 0, _ => x_tb2 (List.mem_of_getElem? (i := 95) rfl)
  | 1, _ => x_tb2 (List.mem_of_getElem? (i := 97) rfl)
  | 2, _ => x_tb2 (List.mem_of_getElem? (i := 99) rfl)
  | 3, _ => x_tb2 (List.mem_of_getElem? (i := 101) rfl)
  | k + 4, h => absurd h (by omega)
theorem x_tk5 : ∀ k, k < 4 → parseFieldDescriptor (x_T5 k).2.2.1 = some (x_ty5 k) := by decide +kernel
theorem x_nm5 : ∀ a, a < 4 → ∀ b, b < 4 → a ≠ b → (x_T5 a).2.1 ≠ (x_T5 b).2.1 := by decide +kernel
theorem x_in6 : ∀ k, k < 5 → u_lay "RowPacker$Report" x_T6 k ∈ x_tw
  | 0, _ => x_tb1 (List.mem_of_getElem? (i := 84) rfl)
  | 1, _ => x_tb1 (List.mem_of_getElem? (i := 86) rfl)
  | 2, _ => x_tb1 (List.mem_of_getElem? (i := 88) rfl)
  | 3, _ => x_tb1 (List.mem_of_getElem? (i := 90) rfl)
  | 4, _ => x_tb1 (List.mem_of_getElem? (i := 92) rfl)
  | k + 5, h => absurd h (by omega)
theorem x_tk6 : ∀ k, k < 5 → parseFieldDescriptor (x_T6 k).2.2.1 = some (x_ty6 k) := by decide +kernel
theorem x_nm6 : ∀ a, a < 5 → ∀ b, b < 5 → a ≠ b → (x_T6 a).2.1 ≠ (x_T6 b).2.1 := by decide +kernel
theorem x_in7 : ∀ k, k < 2 → u_lay "RowPacker$Row" x_T7 k ∈ x_tw
  | 0, _ => x_tb1 (List.mem_of_getElem? (i := 57) rfl)
  | 1, _ => x_tb1 (List.mem_of_getElem? (i := 59) rfl)
  | k + 2, h => absurd h (by omega)
theorem x_tk7 : ∀ k, k < 2 → parseFieldDescriptor (x_T7 k).2.2.1 = some (x_ty7 k) := by decide +kernel
theorem x_nm7 : ∀ a, a < 2 → ∀ b, b < 2 → a ≠ b → (x_T7 a).2.1 ≠ (x_T7 b).2.1 := by decide +kernel
theorem x_in8 : ∀ k, k < 1 → u_lay "RowPacker$Sums" x_T8 k ∈ x_tw
  | 0, _ => x_tb1 (List.mem_of_getElem? (i := 104) rfl)
  | k + 1, h => absurd h (by omega)
theorem x_tk8 : ∀ k, k < 1 → parseFieldDescriptor (x_T8 k).2.2.1 = some (x_ty8 k) := by decide +kernel
theorem x_nm8 : ∀ a, a < 1 → ∀ b, b < 1 → a ≠ b → (x_T8 a).2.1 ≠ (x_T8 b).2.1 := by decide +kernel
theorem x_in9 : ∀ k, k < 13 → u_lay "RowPacker$Unpacker" x_T9 k ∈ x_tw
  | 0, _ => x_tb2 (List.mem_of_getElem? (i := 124) rfl)
  | 1, _ => x_tb2 (List.mem_of_getElem? (i := 126) rfl)
  | 2, _ => x_tb2 (List.mem_of_getElem? (i := 128) rfl)
  | 3, _ => x_tb2 (List.mem_of_getElem? (i := 130) rfl)
  | 4, _ => x_tb2 (List.mem_of_getElem? (i := 132) rfl)
  | 5, _ => x_tb2 (List.mem_of_getElem? (i := 134) rfl)
  | 6, _ => x_tb2 (List.mem_of_getElem? (i := 136) rfl)
  | 7, _ => x_tb2 (List.mem_of_getElem? (i := 138) rfl)
  | 8, _ => x_tb2 (List.mem_of_getElem? (i := 140) rfl)
  | 9, _ => x_tb2 (List.mem_of_getElem? (i := 142) rfl)
  | 10, _ => x_tb2 (List.mem_of_getElem? (i := 144) rfl)
  | 11, _ => x_tb2 (List.mem_of_getElem? (i := 146) rfl)
  | 12, _ => x_tb2 (List.mem_of_getElem? (i := 148) rfl)
  | k + 13, h => absurd h (by omega)
theorem x_tk9 : ∀ k, k < 13 → parseFieldDescriptor (x_T9 k).2.2.1 = some (x_ty9 k) := by decide +kernel
theorem x_nm9 : ∀ a, a < 13 → ∀ b, b < 13 → a ≠ b → (x_T9 a).2.1 ≠ (x_T9 b).2.1 := by decide +kernel
theorem x_in10 : ∀ k, k < 6 → u_lay "RowPacker$Weigher" x_T10 k ∈ x_tw
  | 0, _ => x_tb1 (List.mem_of_getElem? (i := 153) rfl)
  | 1, _ => x_tb1 (List.mem_of_getElem? (i := 155) rfl)
  | 2, _ => x_tb1 (List.mem_of_getElem? (i := 157) rfl)
  | 3, _ => x_tb1 (List.mem_of_getElem? (i := 159) rfl)
  | 4, _ => x_tb1 (List.mem_of_getElem? (i := 161) rfl)
  | 5, _ => x_tb1 (List.mem_of_getElem? (i := 163) rfl)
  | k + 6, h => absurd h (by omega)
theorem x_tk10 : ∀ k, k < 6 → parseFieldDescriptor (x_T10 k).2.2.1 = some (x_ty10 k) := by decide +kernel
theorem x_nm10 : ∀ a, a < 6 → ∀ b, b < 6 → a ≠ b → (x_T10 a).2.1 ≠ (x_T10 b).2.1 := by decide +kernel
theorem x_in11 : ∀ k, k < 3 → u_lay "RowPacker$WriteCode" x_T11 k ∈ x_tw
  | 0, _ => x_tb1 (List.mem_of_getElem? (i := 126) rfl)
  | 1, _ => x_tb1 (List.mem_of_getElem? (i := 128) rfl)
  | 2, _ => x_tb1 (List.mem_of_getElem? (i := 130) rfl)
  | k + 3, h => absurd h (by omega)
theorem x_tk11 : ∀ k, k < 3 → parseFieldDescriptor (x_T11 k).2.2.1 = some (x_ty11 k) := by decide +kernel
theorem x_nm11 : ∀ a, a < 3 → ∀ b, b < 3 → a ≠ b → (x_T11 a).2.1 ≠ (x_T11 b).2.1 := by decide +kernel
theorem x_in12 : ∀ k, k < 34 → u_lay "RowPackerModel" x_T12 k ∈ x_tw
  | 0, _ => x_tb6 (List.mem_of_getElem? (i := 61) rfl)
  | 1, _ => x_tb6 (List.mem_of_getElem? (i := 63) rfl)
  | 2, _ => x_tb6 (List.mem_of_getElem? (i := 65) rfl)
  | 3, _ => x_tb6 (List.mem_of_getElem? (i := 67) rfl)
  | 4, _ => x_tb6 (List.mem_of_getElem? (i := 69) rfl)
  | 5, _ => x_tb6 (List.mem_of_getElem? (i := 71) rfl)
  | 6, _ => x_tb6 (List.mem_of_getElem? (i := 73) rfl)
  | 7, _ => x_tb6 (List.mem_of_getElem? (i := 75) rfl)
  | 8, _ => x_tb6 (List.mem_of_getElem? (i := 77) rfl)
  | 9, _ => x_tb6 (List.mem_of_getElem? (i := 79) rfl)
  | 10, _ => x_tb6 (List.mem_of_getElem? (i := 81) rfl)
  | 11, _ => x_tb6 (List.mem_of_getElem? (i := 83) rfl)
  | 12, _ => x_tb6 (List.mem_of_getElem? (i := 85) rfl)
  | 13, _ => x_tb6 (List.mem_of_getElem? (i := 87) rfl)
  | 14, _ => x_tb6 (List.mem_of_getElem? (i := 89) rfl)
  | 15, _ => x_tb6 (List.mem_of_getElem? (i := 91) rfl)
  | 16, _ => x_tb6 (List.mem_of_getElem? (i := 93) rfl)
  | 17, _ => x_tb6 (List.mem_of_getElem? (i := 95) rfl)
  | 18, _ => x_tb6 (List.mem_of_getElem? (i := 97) rfl)
  | 19, _ => x_tb6 (List.mem_of_getElem? (i := 99) rfl)
  | 20, _ => x_tb6 (List.mem_of_getElem? (i := 101) rfl)
  | 21, _ => x_tb6 (List.mem_of_getElem? (i := 103) rfl)
  | 22, _ => x_tb6 (List.mem_of_getElem? (i := 105) rfl)
  | 23, _ => x_tb6 (List.mem_of_getElem? (i := 107) rfl)
  | 24, _ => x_tb6 (List.mem_of_getElem? (i := 109) rfl)
  | 25, _ => x_tb6 (List.mem_of_getElem? (i := 111) rfl)
  | 26, _ => x_tb6 (List.mem_of_getElem? (i := 113) rfl)
  | 27, _ => x_tb6 (List.mem_of_getElem? (i := 115) rfl)
  | 28, _ => x_tb6 (List.mem_of_getElem? (i := 117) rfl)
  | 29, _ => x_tb6 (List.mem_of_getElem? (i := 119) rfl)
  | 30, _ => x_tb6 (List.mem_of_getElem? (i := 121) rfl)
  | 31, _ => x_tb6 (List.mem_of_getElem? (i := 123) rfl)
  | 32, _ => x_tb6 (List.mem_of_getElem? (i := 125) rfl)
  | 33, _ => x_tb6 (List.mem_of_getElem? (i := 127) rfl)
  | k + 34, h => absurd h (by omega)
theorem x_tk12 : ∀ k, k < 34 → parseFieldDescriptor (x_T12 k).2.2.1 = some (x_ty12 k) := by decide +kernel
theorem x_nm12 : ∀ a, a < 34 → ∀ b, b < 34 → a ≠ b → (x_T12 a).2.1 ≠ (x_T12 b).2.1 := by decide +kernel
theorem x_in13 : ∀ k, k < 0 → u_lay "java/lang/IllegalStateException" x_T13 k ∈ x_tw
  | k, h => absurd h (by omega)
theorem x_tk13 : ∀ k, k < 0 → parseFieldDescriptor (x_T13 k).2.2.1 = some (x_ty13 k) := by decide +kernel
theorem x_nm13 : ∀ a, a < 0 → ∀ b, b < 0 → a ≠ b → (x_T13 a).2.1 ≠ (x_T13 b).2.1 := by decide +kernel
theorem x_in14 : ∀ k, k < 0 → u_lay "java/lang/IllegalArgumentException" x_T14 k ∈ x_tw
  | k, h => absurd h (by omega)
theorem x_tk14 : ∀ k, k < 0 → parseFieldDescriptor (x_T14 k).2.2.1 = some (x_ty14 k) := by decide +kernel
theorem x_nm14 : ∀ a, a < 0 → ∀ b, b < 0 → a ≠ b → (x_T14 a).2.1 ≠ (x_T14 b).2.1 := by decide +kernel
theorem x_in15 : ∀ k, k < 0 → u_lay "java/lang/IndexOutOfBoundsException" x_T15 k ∈ x_tw
  | k, h => absurd h (by omega)
theorem x_tk15 : ∀ k, k < 0 → parseFieldDescriptor (x_T15 k).2.2.1 = some (x_ty15 k) := by decide +kernel
theorem x_nm15 : ∀ a, a < 0 → ∀ b, b < 0 → a ≠ b → (x_T15 a).2.1 ≠ (x_T15 b).2.1 := by decide +kernel
/-- a class of the list: its words, its types, its names apart -/
def x_okc (ci : Nat) (q : vw_C) : Prop := (∀ w ∈ u_ws q.1 q.2.1 q.2.2, w ∈ x_tw) ∧ (∀ k, k < q.2.2 → parseFieldDescriptor (q.2.1 k).2.2.1 = some (x_tys ci k)) ∧ ∀ a, a < q.2.2 → ∀ b, b < q.2.2 → a ≠ b → (q.2.1 a).2.1 ≠ (q.2.1 b).2.1
theorem x_okc_of {ci : Nat} {C : String} {T : u_T} {N : Nat} (h1 : ∀ k, k < N → u_lay C T k ∈ x_tw) (h2 : ∀ k, k < N → parseFieldDescriptor (T k).2.2.1 = some (x_tys ci k)) (h3 : ∀ a, a < N → ∀ b, b < N → a ≠ b → (T a).2.1 ≠ (T b).2.1) : x_okc ci (C, T, N) := ⟨fun w hw => by obtain ⟨k, hk, rfl⟩ := List.mem_map.mp hw; exact h1 k (List.mem_range.mp hk), h2, h3⟩
theorem x_okc_all : ∀ (ci : Nat) (q : vw_C), x_cl[ci]? = some q → x_okc ci q
  | 0, q, h => by cases h; exact x_okc_of x_in0 x_tk0 x_nm0
  | 1, q, h => by cases h; exact x_okc_of x_in1 x_tk1 x_nm1
  | 2, q, h => by cases h; exact x_okc_of x_in2 x_tk2 x_nm2
  | 3, q, h => by cases h; exact x_okc_of x_in3 x_tk3 x_nm3
  | 4, q, h => by cases h; exact x_okc_of x_in4 x_tk4 x_nm4
  | 5, q, h => by cases h; exact x_okc_of x_in5 x_tk5 x_nm5
  | 6, q, h => by cases h; exact x_okc_of x_in6 x_tk6 x_nm6
  | 7, q, h => by cases h; exact x_okc_of x_in7 x_tk7 x_nm7
  | 8, q, h => by cases h; exact x_okc_of x_in8 x_tk8 x_nm8
  | 9, q, h => by cases h; exact x_okc_of x_in9 x_tk9 x_nm9
  | 10, q, h => by cases h; exact x_okc_of x_in10 x_tk10 x_nm10
  | 11, q, h => by cases h; exact x_okc_of x_in11 x_tk11 x_nm11
  | 12, q, h => by cases h; exact x_okc_of x_in12 x_tk12 x_nm12
  | 13, q, h => by cases h; exact x_okc_of x_in13 x_tk13 x_nm13
  | 14, q, h => by cases h; exact x_okc_of x_in14 x_tk14 x_nm14
  | 15, q, h => by cases h; exact x_okc_of x_in15 x_tk15 x_nm15
  | k + 16, q, h => by simp [x_cl] at h
def x_FL (own idx ci k : Nat) : Prop := ∃ q : vw_C, x_cl[ci]? = some q ∧ k < q.2.2 ∧ Cond.fieldLink (x_cn own) idx (q.2.1 k).1 (q.2.1 k).2.1 (q.2.1 k).2.2.1 ∈ x_tw
theorem fl_7_7 : x_FL 7 7 7 0 := ⟨_, rfl, by decide, x_tb1 (List.mem_of_getElem? (i := 47) rfl)⟩
theorem fl_7_13 : x_FL 7 13 7 1 := ⟨_, rfl, by decide, x_tb1 (List.mem_of_getElem? (i := 55) rfl)⟩
theorem fl_2_62 : x_FL 2 62 7 0 := ⟨_, rfl, by decide, x_tb1 (List.mem_of_getElem? (i := 48) rfl)⟩
theorem fl_2_43 : x_FL 2 43 7 1 := ⟨_, rfl, by decide, x_tb1 (List.mem_of_getElem? (i := 56) rfl)⟩
theorem fl_2_36 : x_FL 2 36 2 0 := ⟨_, rfl, by decide, x_tb1 (List.mem_of_getElem? (i := 213) rfl)⟩
theorem fl_2_74 : x_FL 2 74 2 1 := ⟨_, rfl, by decide, x_tb1 (List.mem_of_getElem? (i := 216) rfl)⟩
theorem fl_2_19 : x_FL 2 19 2 2 := ⟨_, rfl, by decide, x_tb1 (List.mem_of_getElem? (i := 217) rfl)⟩
theorem fl_2_11 : x_FL 2 11 2 3 := ⟨_, rfl, by decide, x_tb1 (List.mem_of_getElem? (i := 218) rfl)⟩
theorem fl_2_16 : x_FL 2 16 2 4 := ⟨_, rfl, by decide, x_tb1 (List.mem_of_getElem? (i := 219) rfl)⟩
theorem fl_2_29 : x_FL 2 29 2 5 := ⟨_, rfl, by decide, x_tb1 (List.mem_of_getElem? (i := 220) rfl)⟩
theorem fl_2_33 : x_FL 2 33 2 6 := ⟨_, rfl, by decide, x_tb1 (List.mem_of_getElem? (i := 221) rfl)⟩
theorem fl_0_73 : x_FL 0 73 7 0 := ⟨_, rfl, by decide, x_tb1 (List.mem_of_getElem? (i := 49) rfl)⟩
theorem fl_0_53 : x_FL 0 53 7 1 := ⟨_, rfl, by decide, x_tb1 (List.mem_of_getElem? (i := 51) rfl)⟩
theorem fl_0_109 : x_FL 0 109 6 0 := ⟨_, rfl, by decide, x_tb1 (List.mem_of_getElem? (i := 71) rfl)⟩
theorem fl_0_87 : x_FL 0 87 6 1 := ⟨_, rfl, by decide, x_tb1 (List.mem_of_getElem? (i := 74) rfl)⟩
theorem fl_0_90 : x_FL 0 90 6 2 := ⟨_, rfl, by decide, x_tb1 (List.mem_of_getElem? (i := 77) rfl)⟩
theorem fl_0_106 : x_FL 0 106 6 3 := ⟨_, rfl, by decide, x_tb1 (List.mem_of_getElem? (i := 79) rfl)⟩
theorem fl_0_113 : x_FL 0 113 6 4 := ⟨_, rfl, by decide, x_tb1 (List.mem_of_getElem? (i := 82) rfl)⟩
theorem fl_0_15 : x_FL 0 15 0 0 := ⟨_, rfl, by decide, x_tb2 (List.mem_of_getElem? (i := 151) rfl)⟩
theorem fl_0_20 : x_FL 0 20 0 1 := ⟨_, rfl, by decide, x_tb2 (List.mem_of_getElem? (i := 152) rfl)⟩
theorem fl_0_26 : x_FL 0 26 0 2 := ⟨_, rfl, by decide, x_tb2 (List.mem_of_getElem? (i := 153) rfl)⟩
theorem fl_0_33 : x_FL 0 33 0 3 := ⟨_, rfl, by decide, x_tb2 (List.mem_of_getElem? (i := 154) rfl)⟩
theorem fl_0_42 : x_FL 0 42 0 4 := ⟨_, rfl, by decide, x_tb2 (List.mem_of_getElem? (i := 155) rfl)⟩
theorem fl_0_49 : x_FL 0 49 0 5 := ⟨_, rfl, by decide, x_tb2 (List.mem_of_getElem? (i := 156) rfl)⟩
theorem fl_9_144 : x_FL 9 144 7 0 := ⟨_, rfl, by decide, x_tb1 (List.mem_of_getElem? (i := 50) rfl)⟩
theorem fl_9_68 : x_FL 9 68 7 1 := ⟨_, rfl, by decide, x_tb1 (List.mem_of_getElem? (i := 53) rfl)⟩
theorem fl_9_95 : x_FL 9 95 6 1 := ⟨_, rfl, by decide, x_tb1 (List.mem_of_getElem? (i := 73) rfl)⟩
theorem fl_9_102 : x_FL 9 102 6 2 := ⟨_, rfl, by decide, x_tb1 (List.mem_of_getElem? (i := 76) rfl)⟩
theorem fl_9_229 : x_FL 9 229 6 4 := ⟨_, rfl, by decide, x_tb1 (List.mem_of_getElem? (i := 83) rfl)⟩
theorem fl_9_151 : x_FL 9 151 5 0 := ⟨_, rfl, by decide, x_tb2 (List.mem_of_getElem? (i := 89) rfl)⟩
theorem fl_9_154 : x_FL 9 154 5 1 := ⟨_, rfl, by decide, x_tb2 (List.mem_of_getElem? (i := 91) rfl)⟩
theorem fl_9_148 : x_FL 9 148 5 2 := ⟨_, rfl, by decide, x_tb2 (List.mem_of_getElem? (i := 93) rfl)⟩
theorem fl_9_34 : x_FL 9 34 9 0 := ⟨_, rfl, by decide, x_tb2 (List.mem_of_getElem? (i := 111) rfl)⟩
theorem fl_9_38 : x_FL 9 38 9 1 := ⟨_, rfl, by decide, x_tb2 (List.mem_of_getElem? (i := 112) rfl)⟩
theorem fl_9_41 : x_FL 9 41 9 2 := ⟨_, rfl, by decide, x_tb2 (List.mem_of_getElem? (i := 113) rfl)⟩
theorem fl_9_45 : x_FL 9 45 9 3 := ⟨_, rfl, by decide, x_tb2 (List.mem_of_getElem? (i := 114) rfl)⟩
theorem fl_9_12 : x_FL 9 12 9 4 := ⟨_, rfl, by decide, x_tb2 (List.mem_of_getElem? (i := 115) rfl)⟩
theorem fl_9_18 : x_FL 9 18 9 5 := ⟨_, rfl, by decide, x_tb2 (List.mem_of_getElem? (i := 116) rfl)⟩
theorem fl_9_21 : x_FL 9 21 9 6 := ⟨_, rfl, by decide, x_tb2 (List.mem_of_getElem? (i := 117) rfl)⟩
theorem fl_9_24 : x_FL 9 24 9 7 := ⟨_, rfl, by decide, x_tb2 (List.mem_of_getElem? (i := 118) rfl)⟩
theorem fl_9_27 : x_FL 9 27 9 8 := ⟨_, rfl, by decide, x_tb2 (List.mem_of_getElem? (i := 119) rfl)⟩
theorem fl_9_30 : x_FL 9 30 9 9 := ⟨_, rfl, by decide, x_tb2 (List.mem_of_getElem? (i := 120) rfl)⟩
theorem fl_9_74 : x_FL 9 74 9 10 := ⟨_, rfl, by decide, x_tb2 (List.mem_of_getElem? (i := 121) rfl)⟩
theorem fl_9_77 : x_FL 9 77 9 11 := ⟨_, rfl, by decide, x_tb2 (List.mem_of_getElem? (i := 122) rfl)⟩
theorem fl_9_81 : x_FL 9 81 9 12 := ⟨_, rfl, by decide, x_tb2 (List.mem_of_getElem? (i := 123) rfl)⟩
theorem fl_1_13 : x_FL 1 13 7 1 := ⟨_, rfl, by decide, x_tb1 (List.mem_of_getElem? (i := 52) rfl)⟩
theorem fl_1_39 : x_FL 1 39 11 0 := ⟨_, rfl, by decide, x_tb1 (List.mem_of_getElem? (i := 122) rfl)⟩
theorem fl_1_33 : x_FL 1 33 11 1 := ⟨_, rfl, by decide, x_tb1 (List.mem_of_getElem? (i := 124) rfl)⟩
theorem fl_1_7 : x_FL 1 7 1 0 := ⟨_, rfl, by decide, x_tb2 (List.mem_of_getElem? (i := 3) rfl)⟩
theorem fl_1_19 : x_FL 1 19 1 1 := ⟨_, rfl, by decide, x_tb2 (List.mem_of_getElem? (i := 4) rfl)⟩
theorem fl_1_22 : x_FL 1 22 1 2 := ⟨_, rfl, by decide, x_tb2 (List.mem_of_getElem? (i := 5) rfl)⟩
theorem fl_4_114 : x_FL 4 114 7 1 := ⟨_, rfl, by decide, x_tb1 (List.mem_of_getElem? (i := 54) rfl)⟩
theorem fl_4_185 : x_FL 4 185 6 4 := ⟨_, rfl, by decide, x_tb1 (List.mem_of_getElem? (i := 81) rfl)⟩
theorem fl_4_71 : x_FL 4 71 11 0 := ⟨_, rfl, by decide, x_tb1 (List.mem_of_getElem? (i := 120) rfl)⟩
theorem fl_4_202 : x_FL 4 202 3 0 := ⟨_, rfl, by decide, x_tb1 (List.mem_of_getElem? (i := 168) rfl)⟩
theorem fl_4_205 : x_FL 4 205 3 1 := ⟨_, rfl, by decide, x_tb1 (List.mem_of_getElem? (i := 170) rfl)⟩
theorem fl_4_158 : x_FL 4 158 2 0 := ⟨_, rfl, by decide, x_tb1 (List.mem_of_getElem? (i := 214) rfl)⟩
theorem fl_4_161 : x_FL 4 161 2 1 := ⟨_, rfl, by decide, x_tb1 (List.mem_of_getElem? (i := 215) rfl)⟩
theorem fl_4_43 : x_FL 4 43 4 0 := ⟨_, rfl, by decide, x_tb2 (List.mem_of_getElem? (i := 27) rfl)⟩
theorem fl_4_47 : x_FL 4 47 4 1 := ⟨_, rfl, by decide, x_tb2 (List.mem_of_getElem? (i := 28) rfl)⟩
theorem fl_4_51 : x_FL 4 51 4 2 := ⟨_, rfl, by decide, x_tb2 (List.mem_of_getElem? (i := 29) rfl)⟩
theorem fl_4_60 : x_FL 4 60 4 3 := ⟨_, rfl, by decide, x_tb2 (List.mem_of_getElem? (i := 30) rfl)⟩
theorem fl_4_67 : x_FL 4 67 4 4 := ⟨_, rfl, by decide, x_tb2 (List.mem_of_getElem? (i := 31) rfl)⟩
theorem fl_4_14 : x_FL 4 14 4 5 := ⟨_, rfl, by decide, x_tb2 (List.mem_of_getElem? (i := 32) rfl)⟩
theorem fl_4_20 : x_FL 4 20 4 6 := ⟨_, rfl, by decide, x_tb2 (List.mem_of_getElem? (i := 33) rfl)⟩
theorem fl_4_26 : x_FL 4 26 4 7 := ⟨_, rfl, by decide, x_tb2 (List.mem_of_getElem? (i := 34) rfl)⟩
theorem fl_4_30 : x_FL 4 30 4 8 := ⟨_, rfl, by decide, x_tb2 (List.mem_of_getElem? (i := 35) rfl)⟩
theorem fl_4_34 : x_FL 4 34 4 9 := ⟨_, rfl, by decide, x_tb2 (List.mem_of_getElem? (i := 36) rfl)⟩
theorem fl_4_37 : x_FL 4 37 4 10 := ⟨_, rfl, by decide, x_tb2 (List.mem_of_getElem? (i := 37) rfl)⟩
theorem fl_4_40 : x_FL 4 40 4 11 := ⟨_, rfl, by decide, x_tb2 (List.mem_of_getElem? (i := 38) rfl)⟩
theorem fl_4_107 : x_FL 4 107 4 12 := ⟨_, rfl, by decide, x_tb2 (List.mem_of_getElem? (i := 39) rfl)⟩
theorem fl_4_149 : x_FL 4 149 4 13 := ⟨_, rfl, by decide, x_tb2 (List.mem_of_getElem? (i := 40) rfl)⟩
theorem fl_4_146 : x_FL 4 146 4 14 := ⟨_, rfl, by decide, x_tb2 (List.mem_of_getElem? (i := 41) rfl)⟩
theorem fl_4_99 : x_FL 4 99 4 15 := ⟨_, rfl, by decide, x_tb2 (List.mem_of_getElem? (i := 42) rfl)⟩
theorem fl_6_11 : x_FL 6 11 6 0 := ⟨_, rfl, by decide, x_tb1 (List.mem_of_getElem? (i := 70) rfl)⟩
theorem fl_6_19 : x_FL 6 19 6 1 := ⟨_, rfl, by decide, x_tb1 (List.mem_of_getElem? (i := 72) rfl)⟩
theorem fl_6_15 : x_FL 6 15 6 2 := ⟨_, rfl, by decide, x_tb1 (List.mem_of_getElem? (i := 75) rfl)⟩
theorem fl_6_22 : x_FL 6 22 6 3 := ⟨_, rfl, by decide, x_tb1 (List.mem_of_getElem? (i := 78) rfl)⟩
theorem fl_6_25 : x_FL 6 25 6 4 := ⟨_, rfl, by decide, x_tb1 (List.mem_of_getElem? (i := 80) rfl)⟩
theorem fl_8_7 : x_FL 8 7 8 0 := ⟨_, rfl, by decide, x_tb1 (List.mem_of_getElem? (i := 103) rfl)⟩
theorem fl_11_15 : x_FL 11 15 11 0 := ⟨_, rfl, by decide, x_tb1 (List.mem_of_getElem? (i := 119) rfl)⟩
theorem fl_11_18 : x_FL 11 18 11 1 := ⟨_, rfl, by decide, x_tb1 (List.mem_of_getElem? (i := 123) rfl)⟩
theorem fl_11_9 : x_FL 11 9 11 2 := ⟨_, rfl, by decide, x_tb1 (List.mem_of_getElem? (i := 125) rfl)⟩
theorem fl_3_46 : x_FL 3 46 11 0 := ⟨_, rfl, by decide, x_tb1 (List.mem_of_getElem? (i := 121) rfl)⟩
theorem fl_3_14 : x_FL 3 14 3 0 := ⟨_, rfl, by decide, x_tb1 (List.mem_of_getElem? (i := 167) rfl)⟩
theorem fl_3_20 : x_FL 3 20 3 1 := ⟨_, rfl, by decide, x_tb1 (List.mem_of_getElem? (i := 169) rfl)⟩
theorem fl_3_23 : x_FL 3 23 3 2 := ⟨_, rfl, by decide, x_tb1 (List.mem_of_getElem? (i := 171) rfl)⟩
theorem fl_3_29 : x_FL 3 29 3 3 := ⟨_, rfl, by decide, x_tb1 (List.mem_of_getElem? (i := 172) rfl)⟩
theorem fl_3_33 : x_FL 3 33 3 4 := ⟨_, rfl, by decide, x_tb1 (List.mem_of_getElem? (i := 173) rfl)⟩
theorem fl_3_37 : x_FL 3 37 3 5 := ⟨_, rfl, by decide, x_tb1 (List.mem_of_getElem? (i := 174) rfl)⟩
theorem fl_3_40 : x_FL 3 40 3 6 := ⟨_, rfl, by decide, x_tb1 (List.mem_of_getElem? (i := 175) rfl)⟩
theorem fl_3_43 : x_FL 3 43 3 7 := ⟨_, rfl, by decide, x_tb1 (List.mem_of_getElem? (i := 176) rfl)⟩
theorem fl_3_87 : x_FL 3 87 3 8 := ⟨_, rfl, by decide, x_tb1 (List.mem_of_getElem? (i := 177) rfl)⟩
theorem fl_3_56 : x_FL 3 56 3 9 := ⟨_, rfl, by decide, x_tb1 (List.mem_of_getElem? (i := 178) rfl)⟩
theorem fl_3_66 : x_FL 3 66 3 10 := ⟨_, rfl, by decide, x_tb1 (List.mem_of_getElem? (i := 179) rfl)⟩
theorem fl_3_81 : x_FL 3 81 3 11 := ⟨_, rfl, by decide, x_tb1 (List.mem_of_getElem? (i := 180) rfl)⟩
theorem fl_10_9 : x_FL 10 9 10 0 := ⟨_, rfl, by decide, x_tb1 (List.mem_of_getElem? (i := 147) rfl)⟩
theorem fl_10_15 : x_FL 10 15 10 1 := ⟨_, rfl, by decide, x_tb1 (List.mem_of_getElem? (i := 148) rfl)⟩
theorem fl_10_38 : x_FL 10 38 10 2 := ⟨_, rfl, by decide, x_tb1 (List.mem_of_getElem? (i := 149) rfl)⟩
theorem fl_10_18 : x_FL 10 18 10 3 := ⟨_, rfl, by decide, x_tb1 (List.mem_of_getElem? (i := 150) rfl)⟩
theorem fl_10_21 : x_FL 10 21 10 4 := ⟨_, rfl, by decide, x_tb1 (List.mem_of_getElem? (i := 151) rfl)⟩
theorem fl_10_24 : x_FL 10 24 10 5 := ⟨_, rfl, by decide, x_tb1 (List.mem_of_getElem? (i := 152) rfl)⟩
theorem fl_5_9 : x_FL 5 9 5 0 := ⟨_, rfl, by decide, x_tb2 (List.mem_of_getElem? (i := 88) rfl)⟩
theorem fl_5_15 : x_FL 5 15 5 1 := ⟨_, rfl, by decide, x_tb2 (List.mem_of_getElem? (i := 90) rfl)⟩
theorem fl_5_27 : x_FL 5 27 5 2 := ⟨_, rfl, by decide, x_tb2 (List.mem_of_getElem? (i := 92) rfl)⟩
theorem fl_5_18 : x_FL 5 18 5 3 := ⟨_, rfl, by decide, x_tb2 (List.mem_of_getElem? (i := 94) rfl)⟩
theorem fl_12_79 : x_FL 12 79 12 0 := ⟨_, rfl, by decide, x_tb6 (List.mem_of_getElem? (i := 27) rfl)⟩
theorem fl_12_8 : x_FL 12 8 12 1 := ⟨_, rfl, by decide, x_tb6 (List.mem_of_getElem? (i := 28) rfl)⟩
theorem fl_12_82 : x_FL 12 82 12 2 := ⟨_, rfl, by decide, x_tb6 (List.mem_of_getElem? (i := 29) rfl)⟩
theorem fl_12_15 : x_FL 12 15 12 3 := ⟨_, rfl, by decide, x_tb6 (List.mem_of_getElem? (i := 30) rfl)⟩
theorem fl_12_146 : x_FL 12 146 12 4 := ⟨_, rfl, by decide, x_tb6 (List.mem_of_getElem? (i := 31) rfl)⟩
theorem fl_12_115 : x_FL 12 115 12 5 := ⟨_, rfl, by decide, x_tb6 (List.mem_of_getElem? (i := 32) rfl)⟩
theorem fl_12_18 : x_FL 12 18 12 6 := ⟨_, rfl, by decide, x_tb6 (List.mem_of_getElem? (i := 33) rfl)⟩
theorem fl_12_171 : x_FL 12 171 12 7 := ⟨_, rfl, by decide, x_tb6 (List.mem_of_getElem? (i := 34) rfl)⟩
theorem fl_12_164 : x_FL 12 164 12 8 := ⟨_, rfl, by decide, x_tb6 (List.mem_of_getElem? (i := 35) rfl)⟩
theorem fl_12_22 : x_FL 12 22 12 9 := ⟨_, rfl, by decide, x_tb6 (List.mem_of_getElem? (i := 36) rfl)⟩
theorem fl_12_26 : x_FL 12 26 12 10 := ⟨_, rfl, by decide, x_tb6 (List.mem_of_getElem? (i := 37) rfl)⟩
theorem fl_12_29 : x_FL 12 29 12 11 := ⟨_, rfl, by decide, x_tb6 (List.mem_of_getElem? (i := 38) rfl)⟩
theorem fl_12_32 : x_FL 12 32 12 12 := ⟨_, rfl, by decide, x_tb6 (List.mem_of_getElem? (i := 39) rfl)⟩
theorem fl_12_118 : x_FL 12 118 12 13 := ⟨_, rfl, by decide, x_tb6 (List.mem_of_getElem? (i := 40) rfl)⟩
theorem fl_12_152 : x_FL 12 152 12 14 := ⟨_, rfl, by decide, x_tb6 (List.mem_of_getElem? (i := 41) rfl)⟩
theorem fl_12_35 : x_FL 12 35 12 15 := ⟨_, rfl, by decide, x_tb6 (List.mem_of_getElem? (i := 42) rfl)⟩
theorem fl_12_38 : x_FL 12 38 12 16 := ⟨_, rfl, by decide, x_tb6 (List.mem_of_getElem? (i := 43) rfl)⟩
theorem fl_12_41 : x_FL 12 41 12 17 := ⟨_, rfl, by decide, x_tb6 (List.mem_of_getElem? (i := 44) rfl)⟩
theorem fl_12_44 : x_FL 12 44 12 18 := ⟨_, rfl, by decide, x_tb6 (List.mem_of_getElem? (i := 45) rfl)⟩
theorem fl_12_47 : x_FL 12 47 12 19 := ⟨_, rfl, by decide, x_tb6 (List.mem_of_getElem? (i := 46) rfl)⟩
theorem fl_12_50 : x_FL 12 50 12 20 := ⟨_, rfl, by decide, x_tb6 (List.mem_of_getElem? (i := 47) rfl)⟩
theorem fl_12_242 : x_FL 12 242 12 21 := ⟨_, rfl, by decide, x_tb6 (List.mem_of_getElem? (i := 48) rfl)⟩
theorem fl_12_53 : x_FL 12 53 12 22 := ⟨_, rfl, by decide, x_tb6 (List.mem_of_getElem? (i := 49) rfl)⟩
theorem fl_12_57 : x_FL 12 57 12 23 := ⟨_, rfl, by decide, x_tb6 (List.mem_of_getElem? (i := 50) rfl)⟩
theorem fl_12_60 : x_FL 12 60 12 24 := ⟨_, rfl, by decide, x_tb6 (List.mem_of_getElem? (i := 51) rfl)⟩
theorem fl_12_63 : x_FL 12 63 12 25 := ⟨_, rfl, by decide, x_tb6 (List.mem_of_getElem? (i := 52) rfl)⟩
theorem fl_12_67 : x_FL 12 67 12 26 := ⟨_, rfl, by decide, x_tb6 (List.mem_of_getElem? (i := 53) rfl)⟩
theorem fl_12_70 : x_FL 12 70 12 27 := ⟨_, rfl, by decide, x_tb6 (List.mem_of_getElem? (i := 54) rfl)⟩
theorem fl_12_73 : x_FL 12 73 12 28 := ⟨_, rfl, by decide, x_tb6 (List.mem_of_getElem? (i := 55) rfl)⟩
theorem fl_12_76 : x_FL 12 76 12 29 := ⟨_, rfl, by decide, x_tb6 (List.mem_of_getElem? (i := 56) rfl)⟩
theorem fl_12_251 : x_FL 12 251 12 30 := ⟨_, rfl, by decide, x_tb6 (List.mem_of_getElem? (i := 57) rfl)⟩
theorem fl_12_270 : x_FL 12 270 12 31 := ⟨_, rfl, by decide, x_tb6 (List.mem_of_getElem? (i := 58) rfl)⟩
theorem fl_12_273 : x_FL 12 273 12 32 := ⟨_, rfl, by decide, x_tb6 (List.mem_of_getElem? (i := 59) rfl)⟩
theorem fl_12_279 : x_FL 12 279 12 33 := ⟨_, rfl, by decide, x_tb6 (List.mem_of_getElem? (i := 60) rfl)⟩
def x_KC (own idx : Nat) (v : Int32) : Prop := Cond.constant (x_cn own) idx v ∈ x_tw
def x_KL (own idx : Nat) (v : Int64) : Prop := Cond.constantLong (x_cn own) idx v ∈ x_tw
theorem kc_0_11 : x_KC 0 11 (32768) := x_tb1 (List.mem_of_getElem? (i := 42) rfl)
theorem kc_0_19 : x_KC 0 19 (65536) := x_tb1 (List.mem_of_getElem? (i := 63) rfl)
theorem kc_8_13 : x_KC 8 13 (-306674912) := x_tb1 (List.mem_of_getElem? (i := 102) rfl)
theorem kc_8_20 : x_KC 8 20 (65521) := x_tb4 (List.mem_of_getElem? (i := 63) rfl)
theorem kc_2_15 : x_KC 2 15 (32768) := x_tb1 (List.mem_of_getElem? (i := 212) rfl)
theorem kc_2_66 : x_KC 2 66 (-1640531535) := x_tb3 (List.mem_of_getElem? (i := 146) rfl)
theorem kc_4_103 : x_KC 4 103 (32768) := x_tb3 (List.mem_of_getElem? (i := 125) rfl)
theorem kc_4_223 : x_KC 4 223 (65535) := x_tb4 (List.mem_of_getElem? (i := 26) rfl)
theorem kl_8_21 : x_KL 8 21 (65536) := x_tb4 (List.mem_of_getElem? (i := 64) rfl)
theorem kl_8_23 : x_KL 8 23 (4294967295) := x_tb4 (List.mem_of_getElem? (i := 73) rfl)
theorem kc_9_80 : x_KC 9 80 (32768) := x_tb4 (List.mem_of_getElem? (i := 86) rfl)
theorem kc_9_157 : x_KC 9 157 (262144) := x_tb4 (List.mem_of_getElem? (i := 130) rfl)
theorem kc_9_175 : x_KC 9 175 (65535) := x_tb4 (List.mem_of_getElem? (i := 139) rfl)
theorem kc_9_176 : x_KC 9 176 (65536) := x_tb4 (List.mem_of_getElem? (i := 140) rfl)
theorem kl_9_132 : x_KL 9 132 (65535) := x_tb4 (List.mem_of_getElem? (i := 125) rfl)
theorem kc_5_31 : x_KC 5 31 (32768) := x_tb5 (List.mem_of_getElem? (i := 208) rfl)
theorem kc_12_7 : x_KC 12 7 (32768) := x_tb6 (List.mem_of_getElem? (i := 25) rfl)
theorem kc_12_14 : x_KC 12 14 (65536) := x_tb6 (List.mem_of_getElem? (i := 26) rfl)
theorem kc_12_170 : x_KC 12 170 (65535) := x_tb6 (List.mem_of_getElem? (i := 203) rfl)
theorem kl_12_89 : x_KL 12 89 (65521) := x_tb6 (List.mem_of_getElem? (i := 162) rfl)
theorem kl_12_91 : x_KL 12 91 (65536) := x_tb6 (List.mem_of_getElem? (i := 163) rfl)
theorem kl_12_93 : x_KL 12 93 (4294967295) := x_tb6 (List.mem_of_getElem? (i := 167) rfl)
theorem kl_12_95 : x_KL 12 95 (255) := x_tb6 (List.mem_of_getElem? (i := 168) rfl)
theorem kl_12_97 : x_KL 12 97 (2) := x_tb6 (List.mem_of_getElem? (i := 169) rfl)
theorem kl_12_99 : x_KL 12 99 (3988292384) := x_tb6 (List.mem_of_getElem? (i := 170) rfl)
theorem kl_12_196 : x_KL 12 196 (256) := x_tb7 (List.mem_of_getElem? (i := 27) rfl)
theorem kl_12_210 : x_KL 12 210 (65535) := x_tb7 (List.mem_of_getElem? (i := 48) rfl)
def x_SL (own idx : Nat) : Prop := Cond.fieldLinkNest (x_cn own) idx "RowPacker" "ORDER_OF_LENGTHS" "[I" "RowPacker" ∈ x_tw
theorem sl_3_84 : x_SL 3 84 := x_tb3 (List.mem_of_getElem? (i := 232) rfl)
theorem sl_9_198 : x_SL 9 198 := x_tb5 (List.mem_of_getElem? (i := 203) rfl)
/-- a class that is made: its link, its slots, initialised -/
def x_NC (own idx ci n : Nat) : Prop := Cond.classLink (x_cn own) idx (x_cn ci) ∈ x_tw ∧ Cond.instantiable (x_cn ci) n ∈ x_tw ∧ Cond.initialized (x_cn ci) ∈ x_tw
theorem nc_0_9 : x_NC 0 9 7 2 := ⟨x_tb1 (List.mem_of_getElem? (i := 40) rfl), x_tb1 (List.mem_of_getElem? (i := 41) rfl), x_tb1 (List.mem_of_getElem? (i := 2) rfl)⟩
theorem nc_0_23 : x_NC 0 23 6 5 := ⟨x_tb1 (List.mem_of_getElem? (i := 64) rfl), x_tb1 (List.mem_of_getElem? (i := 65) rfl), x_tb1 (List.mem_of_getElem? (i := 3) rfl)⟩
theorem nc_0_30 : x_NC 0 30 8 1 := ⟨x_tb1 (List.mem_of_getElem? (i := 96) rfl), x_tb1 (List.mem_of_getElem? (i := 97) rfl), x_tb1 (List.mem_of_getElem? (i := 4) rfl)⟩
theorem nc_0_37 : x_NC 0 37 4 16 := ⟨x_tb1 (List.mem_of_getElem? (i := 107) rfl), x_tb1 (List.mem_of_getElem? (i := 108) rfl), x_tb1 (List.mem_of_getElem? (i := 5) rfl)⟩
theorem nc_0_46 : x_NC 0 46 9 13 := ⟨x_tb2 (List.mem_of_getElem? (i := 76) rfl), x_tb2 (List.mem_of_getElem? (i := 77) rfl), x_tb1 (List.mem_of_getElem? (i := 12) rfl)⟩
theorem nc_0_57 : x_NC 0 57 13 6 := ⟨x_tb2 (List.mem_of_getElem? (i := 198) rfl), x_tb2 (List.mem_of_getElem? (i := 199) rfl), x_tb1 (List.mem_of_getElem? (i := 18) rfl)⟩
theorem nc_0_63 : x_NC 0 63 14 6 := ⟨x_tb3 (List.mem_of_getElem? (i := 39) rfl), x_tb3 (List.mem_of_getElem? (i := 40) rfl), x_tb1 (List.mem_of_getElem? (i := 19) rfl)⟩
theorem nc_0_70 : x_NC 0 70 15 6 := ⟨x_tb3 (List.mem_of_getElem? (i := 73) rfl), x_tb3 (List.mem_of_getElem? (i := 74) rfl), x_tb1 (List.mem_of_getElem? (i := 20) rfl)⟩
theorem nc_4_9 : x_NC 4 9 11 3 := ⟨x_tb1 (List.mem_of_getElem? (i := 113) rfl), x_tb1 (List.mem_of_getElem? (i := 114) rfl), x_tb1 (List.mem_of_getElem? (i := 6) rfl)⟩
theorem nc_4_23 : x_NC 4 23 3 12 := ⟨x_tb1 (List.mem_of_getElem? (i := 133) rfl), x_tb1 (List.mem_of_getElem? (i := 134) rfl), x_tb1 (List.mem_of_getElem? (i := 7) rfl)⟩
theorem nc_4_55 : x_NC 4 55 2 7 := ⟨x_tb1 (List.mem_of_getElem? (i := 206) rfl), x_tb1 (List.mem_of_getElem? (i := 207) rfl), x_tb1 (List.mem_of_getElem? (i := 9) rfl)⟩
theorem nc_4_64 : x_NC 4 64 1 3 := ⟨x_tb1 (List.mem_of_getElem? (i := 237) rfl), x_tb1 (List.mem_of_getElem? (i := 238) rfl), x_tb1 (List.mem_of_getElem? (i := 10) rfl)⟩
theorem nc_3_9 : x_NC 3 9 11 3 := ⟨x_tb1 (List.mem_of_getElem? (i := 139) rfl), x_tb1 (List.mem_of_getElem? (i := 114) rfl), x_tb1 (List.mem_of_getElem? (i := 6) rfl)⟩
theorem nc_3_26 : x_NC 3 26 10 6 := ⟨x_tb1 (List.mem_of_getElem? (i := 141) rfl), x_tb1 (List.mem_of_getElem? (i := 142) rfl), x_tb1 (List.mem_of_getElem? (i := 8) rfl)⟩
theorem nc_9_9 : x_NC 9 9 5 4 := ⟨x_tb2 (List.mem_of_getElem? (i := 82) rfl), x_tb2 (List.mem_of_getElem? (i := 83) rfl), x_tb1 (List.mem_of_getElem? (i := 13) rfl)⟩
end
section
theorem xR.two {x : xX} {H : xH} {Hh : Heap} (h : xR x H Hh) : ∃ t, H = .inl (0, x.2.2.2.2.2.1, .inl x.2.2.2.2.2.2) :: .inl (0, 19, .inl x_ord) :: t := by
  obtain ⟨-, h0, h1, h2⟩ := h
  match H, h0, h1, h2 with
  | a :: b :: t, h0, h1, _ =>
    cases h0; cases h1
    exact ⟨t, rfl⟩
theorem xR.ge {x : xX} {H : xH} {Hh : Heap} (h : xR x H Hh) {r ci : Nat} {fs : List Value} (hr : H[r]? = some (.inr (ci, fs))) : 2 ≤ r := by
  obtain ⟨t, rfl⟩ := h.two
  match r, hr with
  | 0, hr => cases hr
  | 1, hr => cases hr
  | r + 2, _ => omega
theorem xR.ge0 {x : xX} {H : xH} {Hh : Heap} (h : xR x H Hh) {r ty : Nat} {a : vp_A} (hr : H[r]? = some (.inl (ty, a))) (h0 : ty ≠ 0) : 2 ≤ r := by
  obtain ⟨t, rfl⟩ := h.two
  match r, hr with
  | 0, hr => cases hr; exact absurd rfl h0
  | 1, hr => cases hr; exact absurd rfl h0
  | r + 2, _ => omega
theorem xR.at {x : xX} {H : xH} {Hh : Heap} {r : Nat} {c : va_E} (hr : H[r]? = some c) (h2 : 2 ≤ r) : (x_ws x 0 (H.drop 2))[r - 2]? = some (x_ad x r, x_mE x c) := by
  obtain ⟨q, rfl⟩ : ∃ q, r = q + 2 := ⟨r - 2, by omega⟩
  rw [x_ws_get, List.getElem?_drop, show 2 + (q + 2 - 2) = q + 2 by omega, hr]
  simp [x_ad]
theorem xR.set {x : xX} {H : xH} {Hh H1 : Heap} {r : Nat} {c : va_E} (h : xR x H Hh) (h2 : 2 ≤ r) (hP : va_P x.2.2.2.1 x_cl ((x_ws x 0 (H.drop 2)).set (r - 2) (x_ad x r, x_mE x c)) H1) : xR x (H.set r c) H1 := by
  obtain ⟨q, rfl⟩ : ∃ q, r = q + 2 := ⟨r - 2, by omega⟩
  obtain ⟨t, rfl⟩ := h.two
  refine ⟨?_, rfl, rfl, by simp⟩
  have e : x_ws x 0 (List.drop 2 ((.inl (0, x.2.2.2.2.2.1, .inl x.2.2.2.2.2.2) :: .inl (0, 19, .inl x_ord) :: t : xH).set (q + 2) c)) = (x_ws x 0 t).set q (x.1 + (0 + q), x_mE x c) := x_ws_set x c t 0 q
  rw [e, Nat.zero_add]
  exact hP
theorem x_wsD {x : xX} {t : xH} : va_D (xA x) (x_ws x 0 t) := by
  refine ⟨fun i j p q hp hq h => ?_, fun k q hq => ?_⟩
  · rw [x_ws_get] at hp hq
    cases h1 : t[i]? <;> rw [h1] at hp <;> cases hp
    cases h2 : t[j]? <;> rw [h2] at hq <;> cases hq
    simp at h
    exact h
  · rw [x_ws_get] at hq
    cases h1 : t[k]? <;> rw [h1] at hq <;> cases hq
    exact Nat.le_add_right _ _
def x_fok (ty : FieldType) (v : Value) : Bool := match ty, v with
  | .int, .int _ => true
  | .object _, .ref _ => true
  | .array _, .ref _ => true
  | _, _ => false
theorem x_fok.ok {x : xX} {ty : FieldType} {v : Value} (h : x_fok ty v = true) : narrow ty (x_rv x v) = x_rv x v ∧ fits ty (x_rv x v) = true := by
  unfold x_fok at h
  split at h
  · exact ⟨rfl, rfl⟩
  · exact ⟨rfl, rfl⟩
  · exact ⟨rfl, rfl⟩
  · cases h
section XHeap
variable {l : Launch} {x : xX} {d mc ms : Nat} {μ : xM} {n0 : Nat} {Q : xO → xH → Prop} {cl : Bool} {k : Nat} {L : xL} {S : List Value} {H : xH} {uc us : Nat}
variable {a b : Int32} {f g : Int64} {i r n : Nat} {v w : Value} {idx ci kf : Nat} {fs : List Value} {fa : Nat → Int32} {fl : Nat → Int64}
theorem xs_ldc (hc : μ.2.2.2.2.2[k]? = some (.ldc idx)) (hk : x_KC μ.2.2.2.2.1 idx a) (kk : xW l x d mc ms μ n0 Q cl (k + 1) L (.int a :: S) H uc us) : xW l x d mc ms μ n0 Q cl k L S H uc us :=
  xW.go (fun p e s m args below meth c ls Hh locs Qw E R hS hL w => lv_ldc E.1 E.2.1 E.2.2.2.2.1 (E.2.2.2.2.2.1 _ hk) (E.dec hc) (by have := w ls hL; rw [x_pcS _ _ _ hc] at this; exact this)) kk
theorem xs_ldc2 (hc : μ.2.2.2.2.2[k]? = some (.ldc2_w idx)) (hk : x_KL μ.2.2.2.2.1 idx f) (kk : xW l x d mc ms μ n0 Q cl (k + 1) L (.long f :: S) H uc us) : xW l x d mc ms μ n0 Q cl k L S H uc us :=
  xW.go (fun p e s m args below meth c ls Hh locs Qw E R hS hL w => lv_ldc2 E.1 E.2.1 E.2.2.2.2.1 (E.2.2.2.2.2.1 _ hk) (E.dec hc) (by have := w ls hL; rw [x_pcS _ _ _ hc] at this; exact this)) kk
theorem xs_gets (hc : μ.2.2.2.2.2[k]? = some (.getstatic idx)) (hk : x_SL μ.2.2.2.2.1 idx) (kk : xW l x d mc ms μ n0 Q cl (k + 1) L (.ref 1 :: S) H uc us) : xW l x d mc ms μ n0 Q cl k L S H uc us :=
  xW.go (fun p e s m args below meth c ls Hh locs Qw E R hS hL w => va_getsN (A := xA x) E.1 E.2.1 E.2.2.2.2.2.2.2.2.2.1.2.2.2.2.2.2.1 hS E.2.2.2.2.1 (E.2.2.2.2.2.1 _ hk) (fun _ h => h) (E.dec hc) (by have := w ls hL; rw [x_pcS _ _ _ hc] at this; exact this)) kk
theorem xs_getf (hc : μ.2.2.2.2.2[k]? = some (.getfield idx)) (hf : x_FL μ.2.2.2.2.1 idx ci kf) (hh : H[r]? = some (.inr (ci, fs))) (hv : fs[kf]? = some v) (kk : xW l x d mc ms μ n0 Q cl (k + 1) L (v :: S) H uc us) : xW l x d mc ms μ n0 Q cl k L (.ref r :: S) H uc us := by
  refine xW.go (fun p e s m args below meth c ls Hh locs Qw E R hS hL w => ?_) kk
  obtain ⟨q, hq, hk, hl⟩ := hf
  have h2 := R.ge hh
  refine va_get (v := x_rv x v) E.1 E.2.1 E.2.2.2.2.2.1 (x_okc_all ci q hq).1 E.2.2.2.2.1 E.2.2.2.2.2.2.2.2.2.1.1 R.1 (r - 2) (xR.at (Hh := Hh) hh h2) hq kf hk (E.2.2.2.2.2.1 _ hl) (fun _ h => h) (by rw [List.getElem?_map, hv]; rfl) (E.dec hc) ?_
  have := w ls hL
  rw [x_pcS _ _ _ hc] at this
  exact this
theorem xs_putf (hc : μ.2.2.2.2.2[k]? = some (.putfield idx)) (hf : x_FL μ.2.2.2.2.1 idx ci kf) (hh : H[r]? = some (.inr (ci, fs))) (hfin : ∀ q : vw_C, x_cl[ci]? = some q → (q.2.1 kf).2.2.2 = false) (hv : x_fok (x_tys ci kf) v = true) (hl : kf < fs.length) (kk : xW l x d mc ms μ n0 Q false (k + 1) L S (H.set r (.inr (ci, fs.set kf v))) uc us) : xW l x d mc ms μ n0 Q cl k L (v :: .ref r :: S) H uc us := by
  intro p e s m args below meth c ls Hh locs E R hS hL hn hcl
  obtain ⟨q, hq, hk, hlk⟩ := hf
  have h2 := R.ge hh
  have hok := x_okc_all ci q hq
  have hvv := x_fok.ok (x := x) hv
  refine va_put (A := xA x) E.1 E.2.1 E.2.2.2.2.2.1 hok.1 _ hok.2.1 hok.2.2 E.2.2.2.2.1 E.2.2.2.2.2.2.2.2.2.1.1 R.1 x_wsD hS (r - 2) (xR.at (Hh := Hh) hh h2) hq kf hk (E.2.2.2.2.2.1 _ hlk) (fun _ h => h) (hfin q hq) (hok.2.1 kf hk) hvv.1 hvv.2 (by rw [List.length_map]; exact hl) (E.dec hc) (fun H1 locs1 hP hD hS1 => ?_)
  have := kk p e s m args below meth c ls H1 locs1 E (R.set h2 (c := .inr (ci, fs.set kf v)) (by rw [x_mE, List.map_set]; exact hP)) hS1 hL (by rw [List.length_set]; exact hn) (fun h => by cases h)
  rw [x_pcS _ _ _ hc] at this
  exact this
theorem xs_putF (hc : μ.2.2.2.2.2[k]? = some (.putfield idx)) (hf : x_FL μ.2.2.2.2.1 idx ci kf) (hh : H[r]? = some (.inr (ci, fs))) (hfin : ∀ q : vw_C, x_cl[ci]? = some q → (q.2.1 kf).2.2.2 = true ∧ (q.2.1 kf).1 = x_cn μ.2.2.2.2.1) (hin : μ.1.name = "<init>") (hv : x_fok (x_tys ci kf) v = true) (hl : kf < fs.length) (kk : xW l x d mc ms μ n0 Q false (k + 1) L S (H.set r (.inr (ci, fs.set kf v))) uc us) : xW l x d mc ms μ n0 Q cl k L (v :: .ref r :: S) H uc us := by
  intro p e s m args below meth c ls Hh locs E R hS hL hn hcl
  obtain ⟨q, hq, hk, hlk⟩ := hf
  have h2 := R.ge hh
  have hok := x_okc_all ci q hq
  have hvv := x_fok.ok (x := x) hv
  refine va_putF (A := xA x) E.1 E.2.1 E.2.2.2.2.2.1 hok.1 _ hok.2.1 hok.2.2 E.2.2.2.2.1 E.2.2.2.2.2.2.2.2.2.1.1 R.1 x_wsD hS (r - 2) (xR.at (Hh := Hh) hh h2) hq kf hk (E.2.2.2.2.2.1 _ hlk) (fun _ h => h) (hfin q hq).1 (E.2.2.2.2.2.2.2.1.trans hin) (hfin q hq).2 (hok.2.1 kf hk) hvv.1 hvv.2 (by rw [List.length_map]; exact hl) (E.dec hc) (fun H1 locs1 hP hD hS1 => ?_)
  have := kk p e s m args below meth c ls H1 locs1 E (R.set h2 (c := .inr (ci, fs.set kf v)) (by rw [x_mE, List.map_set]; exact hP)) hS1 hL (by rw [List.length_set]; exact hn) (fun h => by cases h)
  rw [x_pcS _ _ _ hc] at this
  exact this
theorem xs_iald (hc : μ.2.2.2.2.2[k]? = some .iaload) (hh : H[r]? = some (.inl (0, n, .inl fa))) (hin : vp_in a n) (kk : xW l x d mc ms μ n0 Q cl (k + 1) L (.int (fa a.toNatClampNeg) :: S) H uc us) : xW l x d mc ms μ n0 Q cl k L (.int a :: .ref r :: S) H uc us := by
  refine xW.go (fun p e s m args below meth c ls Hh locs Qw E R hS hL w => ?_) kk
  have hw := w ls hL
  rw [x_pcS _ _ _ hc] at hw
  obtain ⟨hK, hX0, hX1, hb0, hb1, hbs, hZ⟩ := E.2.2.2.2.2.2.2.2.2.1
  by_cases h2 : 2 ≤ r
  · exact va_iald E.1 E.2.1 hK R.1 (r - 2) 0 (xR.at (Hh := Hh) hh h2) rfl hin (E.dec hc) hw
  · obtain ⟨t, rfl⟩ := R.two
    match r, hh, h2 with
    | 0, hh, _ =>
      cases hh
      exact va_sld (A := xA x) E.1 E.2.1 hX0 (Nat.lt_of_lt_of_le hb0 hbs) (Nat.not_le.mpr hb0) hS hin (E.dec hc) hw
    | 1, hh, _ =>
      cases hh
      obtain ⟨cell, g1, g2, g3, g4, g5, g6, g7⟩ := hX1
      have hlt : a.toNatClampNeg < 19 := Nat.not_le.mp fun q => hin (Or.inr q)
      exact W.iald (v := .int (x_ord a.toNatClampNeg)) E.1 E.2.1 (by show Hh[x.2.2.1]? = some cell; rw [hS.2.1 _ (Nat.lt_of_lt_of_le hb1 hbs) (Nat.not_le.mpr hb1)]; exact g1) g2 g3 (fun h => hin (h.elim Or.inl (fun h => Or.inr (Nat.le_trans g4 h)))) (g6 _ hlt) rfl rfl (E.dec hc) hw
    | r + 2, _, h2 => exact absurd (Nat.le_add_left 2 r) h2
theorem xs_bald (hc : μ.2.2.2.2.2[k]? = some .baload) (hh : H[r]? = some (.inl (1, n, .inl fa))) (hin : vp_in a n) (kk : xW l x d mc ms μ n0 Q cl (k + 1) L (.int (fa a.toNatClampNeg) :: S) H uc us) : xW l x d mc ms μ n0 Q cl k L (.int a :: .ref r :: S) H uc us := by
  refine xW.go (fun p e s m args below meth c ls Hh locs Qw E R hS hL w => ?_) kk
  have hw := w ls hL
  rw [x_pcS _ _ _ hc] at hw
  exact va_bald E.1 E.2.1 E.2.2.2.2.2.2.2.2.2.1.1 R.1 (r - 2) 1 (xR.at (Hh := Hh) hh (R.ge0 hh (by decide))) rfl hin (E.dec hc) hw
theorem xs_zald (hc : μ.2.2.2.2.2[k]? = some .baload) (hh : H[r]? = some (.inl (3, n, .inl fa))) (hin : vp_in a n) (kk : xW l x d mc ms μ n0 Q cl (k + 1) L (.int (fa a.toNatClampNeg) :: S) H uc us) : xW l x d mc ms μ n0 Q cl k L (.int a :: .ref r :: S) H uc us := by
  refine xW.go (fun p e s m args below meth c ls Hh locs Qw E R hS hL w => ?_) kk
  have hw := w ls hL
  rw [x_pcS _ _ _ hc] at hw
  exact va_zald E.1 E.2.1 E.2.2.2.2.2.2.2.2.2.1.1 R.1 (r - 2) 3 (xR.at (Hh := Hh) hh (R.ge0 hh (by decide))) rfl hin (E.dec hc) hw
theorem xs_lald (hc : μ.2.2.2.2.2[k]? = some .laload) (hh : H[r]? = some (.inl (2, n, .inr (.inl fl)))) (hin : vp_in a n) (kk : xW l x d mc ms μ n0 Q cl (k + 1) L (.long (fl a.toNatClampNeg) :: S) H uc us) : xW l x d mc ms μ n0 Q cl k L (.int a :: .ref r :: S) H uc us := by
  refine xW.go (fun p e s m args below meth c ls Hh locs Qw E R hS hL w => ?_) kk
  have hw := w ls hL
  rw [x_pcS _ _ _ hc] at hw
  exact va_lald E.1 E.2.1 E.2.2.2.2.2.2.2.2.2.1.1 R.1 (r - 2) 2 (xR.at (Hh := Hh) hh (R.ge0 hh (by decide))) rfl hin (E.dec hc) hw
theorem xs_iast (hc : μ.2.2.2.2.2[k]? = some .iastore) (hh : H[r]? = some (.inl (0, n, .inl fa))) (h2 : 2 ≤ r) (hin : vp_in a n) (kk : xW l x d mc ms μ n0 Q false (k + 1) L S (H.set r (.inl (0, n, .inl (upd fa a.toNatClampNeg b)))) uc us) : xW l x d mc ms μ n0 Q cl k L (.int b :: .int a :: .ref r :: S) H uc us := by
  intro p e s m args below meth c ls Hh locs E R hS hL hn hcl
  refine va_iast (A := xA x) E.1 E.2.1 E.2.2.2.2.2.2.2.2.2.1.1 R.1 x_wsD hS (r - 2) 0 (xR.at (Hh := Hh) hh h2) rfl hin (E.dec hc) (fun H1 locs1 hP hD hS1 => ?_)
  have := kk p e s m args below meth c ls H1 locs1 E (R.set h2 hP) hS1 hL (by rw [List.length_set]; exact hn) (fun h => by cases h)
  rw [x_pcS _ _ _ hc] at this
  exact this
theorem xs_bast (hc : μ.2.2.2.2.2[k]? = some .bastore) (hh : H[r]? = some (.inl (1, n, .inl fa))) (hin : vp_in a n) (kk : xW l x d mc ms μ n0 Q false (k + 1) L S (H.set r (.inl (1, n, .inl (upd fa a.toNatClampNeg (vp_nar .byte b))))) uc us) : xW l x d mc ms μ n0 Q cl k L (.int b :: .int a :: .ref r :: S) H uc us := by
  intro p e s m args below meth c ls Hh locs E R hS hL hn hcl
  have h2 := R.ge0 hh (by decide)
  refine va_bast (A := xA x) E.1 E.2.1 E.2.2.2.2.2.2.2.2.2.1.1 R.1 x_wsD hS (r - 2) 1 (xR.at (Hh := Hh) hh h2) rfl hin (E.dec hc) (fun H1 locs1 hP hD hS1 => ?_)
  have := kk p e s m args below meth c ls H1 locs1 E (R.set h2 hP) hS1 hL (by rw [List.length_set]; exact hn) (fun h => by cases h)
  rw [x_pcS _ _ _ hc] at this
  exact this
theorem xs_zast (hc : μ.2.2.2.2.2[k]? = some .bastore) (hh : H[r]? = some (.inl (3, n, .inl fa))) (hin : vp_in a n) (kk : xW l x d mc ms μ n0 Q false (k + 1) L S (H.set r (.inl (3, n, .inl (upd fa a.toNatClampNeg (vp_nar .boolean b))))) uc us) : xW l x d mc ms μ n0 Q cl k L (.int b :: .int a :: .ref r :: S) H uc us := by
  intro p e s m args below meth c ls Hh locs E R hS hL hn hcl
  have h2 := R.ge0 hh (by decide)
  refine va_zast (A := xA x) E.1 E.2.1 E.2.2.2.2.2.2.2.2.2.1.1 R.1 x_wsD hS (r - 2) 3 (xR.at (Hh := Hh) hh h2) rfl hin (E.dec hc) (fun H1 locs1 hP hD hS1 => ?_)
  have := kk p e s m args below meth c ls H1 locs1 E (R.set h2 hP) hS1 hL (by rw [List.length_set]; exact hn) (fun h => by cases h)
  rw [x_pcS _ _ _ hc] at this
  exact this
theorem xs_last (hc : μ.2.2.2.2.2[k]? = some .lastore) (hh : H[r]? = some (.inl (2, n, .inr (.inl fl)))) (hin : vp_in a n) (kk : xW l x d mc ms μ n0 Q false (k + 1) L S (H.set r (.inl (2, n, .inr (.inl (vp_updL fl a.toNatClampNeg f))))) uc us) : xW l x d mc ms μ n0 Q cl k L (.long f :: .int a :: .ref r :: S) H uc us := by
  intro p e s m args below meth c ls Hh locs E R hS hL hn hcl
  have h2 := R.ge0 hh (by decide)
  refine va_last (A := xA x) E.1 E.2.1 E.2.2.2.2.2.2.2.2.2.1.1 R.1 x_wsD hS (r - 2) 2 (xR.at (Hh := Hh) hh h2) rfl hin (E.dec hc) (fun H1 locs1 hP hD hS1 => ?_)
  have := kk p e s m args below meth c ls H1 locs1 E (R.set h2 hP) hS1 hL (by rw [List.length_set]; exact hn) (fun h => by cases h)
  rw [x_pcS _ _ _ hc] at this
  exact this
theorem xs_alen {ty : Nat} {va : vp_A} (hc : μ.2.2.2.2.2[k]? = some .arraylength) (hh : H[r]? = some (.inl (ty, va))) (ht : ty < 4) (kk : xW l x d mc ms μ n0 Q cl (k + 1) L (.int (Int32.ofNat va.1) :: S) H uc us) : xW l x d mc ms μ n0 Q cl k L (.ref r :: S) H uc us := by
  refine xW.go (fun p e s m args below meth c ls Hh locs Qw E R hS hL w => ?_) kk
  have hw := w ls hL
  rw [x_pcS _ _ _ hc] at hw
  obtain ⟨hK, hX0, hX1, hb0, hb1, hbs, hZ⟩ := E.2.2.2.2.2.2.2.2.2.1
  by_cases h2 : 2 ≤ r
  · have hat := xR.at (x := x) (Hh := Hh) hh h2
    match ty, ht, hat with
    | 0, _, hat => exact va_alen (ty := .int) E.1 E.2.1 hK R.1 (r - 2) 0 hat rfl rfl (E.dec hc) hw
    | 1, _, hat => exact va_alen (ty := .byte) E.1 E.2.1 hK R.1 (r - 2) 1 hat rfl rfl (E.dec hc) hw
    | 2, _, hat => exact va_alen (ty := .long) E.1 E.2.1 hK R.1 (r - 2) 2 hat rfl rfl (E.dec hc) hw
    | 3, _, hat => exact va_alen (ty := .boolean) E.1 E.2.1 hK R.1 (r - 2) 3 hat rfl rfl (E.dec hc) hw
    | t + 4, ht, _ => omega
  · obtain ⟨t, rfl⟩ := R.two
    match r, hh, h2 with
    | 0, hh, _ =>
      cases hh
      exact va_slen (A := xA x) E.1 E.2.1 hX0 (Nat.lt_of_lt_of_le hb0 hbs) (Nat.not_le.mpr hb0) hS (E.dec hc) hw
    | 1, hh, _ =>
      cases hh
      obtain ⟨cell, g1, g2, g3, g4, g5, g6, g7⟩ := hX1
      exact W.alen (n := Int32.ofNat 19) E.1 E.2.1 (by show Hh[x.2.2.1]? = some cell; rw [hS.2.1 _ (Nat.lt_of_lt_of_le hb1 hbs) (Nat.not_le.mpr hb1)]; exact g1) g2 g5 rfl rfl (E.dec hc) hw
    | r + 2, _, h2 => exact absurd (Nat.le_add_left 2 r) h2
end XHeap
end
section
theorem xW_mono {p : Program} {l : Launch} {e : Env} {R : Room} {s : State} {m : MethodId} {args : Array Value} {below : List Frame} {meth : Method} {c : Code} {H : Heap} {locs : List Loc} {cells slots : Nat} {Q Q' : State → Prop} {g : JFrame} (h : ∀ t, Q t → Q' t) (w : W p l e R s m args below meth c H locs cells slots Q g) : W p l e R s m args below meth c H locs cells slots Q' g := by
  intro T hT X
  obtain ⟨t, a, b⟩ := w T hT X
  exact ⟨t, a, h t b⟩
theorem xW_size {p : Program} {l : Launch} {e : Env} {R : Room} {s : State} {m : MethodId} {args : Array Value} {below : List Frame} {meth : Method} {c : Code} {H : Heap} {locs : List Loc} {cells slots : Nat} {Q : State → Prop} {g : JFrame} (w : H.size ≤ s.heap.size + cells → W p l e R s m args below meth c H locs cells slots Q g) : W p l e R s m args below meth c H locs cells slots Q g := by
  intro T hT X
  exact w (by rw [← hT]; exact X.heapSize) T hT X
theorem xR.size {x : xX} {H : xH} {Hh : Heap} (h : xR x H Hh) (hb : x.1 ≤ Hh.size) : x.1 + H.length ≤ Hh.size + 2 := by
  obtain ⟨t, rfl⟩ := h.two
  by_cases ht : t = []
  · subst ht
    simp only [List.length_cons, List.length_nil]
    omega
  · have hl : t.length - 1 < t.length := Nat.sub_one_lt (fun e => ht (List.length_eq_zero_iff.mp e))
    have hg : (x_ws x 0 t)[t.length - 1]? = some (x.1 + (0 + (t.length - 1)), x_mE x t[t.length - 1]) := by
      rw [x_ws_get, List.getElem?_eq_getElem hl]
      rfl
    have := (h.1 _ _ hg).lt
    simp only [List.length_cons] at *
    omega
def xPc (x : xX) (A : List Value) (H : xH) : Array Value → State → Prop := fun v U => v = (A.map (x_rv x)).toArray ∧ xR x H U.heap ∧ U.heap.size + 2 = x.1 + H.length ∧ xK x U U.heap
abbrev xws (μ : xM) : List Cond := Cond.code μ.1 μ.2.1 μ.2.2.1 μ.2.2.2.1 :: x_tw
/-- A CONTRACT: called with A in the heap H, in room for d frames, mc cells, ms slots, it ends with Q -/
def xCt (l : Launch) (x : xX) (d mc ms : Nat) (μ : xM) (A : List Value) (H : xH) (Q : xO → xH → Prop) : Prop :=
  MetFree l μ.1 (headSpec (xws μ) (xrm d mc ms)) (xPc x A H) (fun _ _ _ _ _ => True) (fun _ st o t => xEnd x H.length mc ms Q st o t)
/-- it returns -/
abbrev xCr (l : Launch) (x : xX) (d mc ms : Nat) (μ : xM) (A : List Value) (H : xH) (Q : Option Value → xH → Prop) : Prop := xCt l x d mc ms μ A H (fun r H' => ∃ v, r = .inl v ∧ Q v H')
def xQc (x : xX) (n0 mc : Nat) (Q : Option Value → xH → Prop) : Array Value → State → Outcome → State → Prop := fun _ st o t => ∃ (v : Option Value) (H' : xH), o = .returned (v.map (x_rv x)) ∧ Q v H' ∧ xR x H' t.heap ∧ H'.length = n0 + mc ∧ va_F (xA x) st t
theorem xCr.met {l : Launch} {x : xX} {d mc ms : Nat} {μ : xM} {A : List Value} {H : xH} {Q : Option Value → xH → Prop} (h : xCr l x d mc ms μ A H Q) : Met l μ.1 (xws μ) (xrm d mc ms) (xPc x A H) (xQc x H.length mc Q) mc ms (xA x) := by
  intro p e h1 h2 h3 s m args below h4 h5 h6 h7
  obtain ⟨n, o, a1, a2, a3, r, H', e1, ⟨v, e2, hq⟩, hR, hl, hF, L, hW, hs, hL⟩ := h p e h1 h2 h3 s m args below h4 h5 h6 h7
  subst e2
  exact ⟨n, o, a1, a2, a3, ⟨v, H', e1, hq, hR, hl, hF⟩, L, ⟨⟨_, e1⟩, hW, hs⟩, hL⟩
theorem xPc.blind {x : xX} {A : List Value} {H : xH} : FrameBlind (xPc x A H) := by
  intro a U g mk h
  obtain ⟨h1, h2, h3, h4⟩ := h
  exact ⟨h1, h2, h3, h4.to (u := U) (U := U.calling g mk a) (H0 := U.heap) (H := (U.calling g mk a).heap) (locs := []) (Vm.Alike.refl U.vm) va_S.rf⟩
/-! entry -/
def x_la : List Value → xL
  | [] => []
  | v :: t => if v.category = 2 then some v :: none :: x_la t else some v :: x_la t
def x_L0 (A : List Value) (nL : Nat) : xL := x_la A ++ List.replicate (nL - (x_la A).length) none
theorem x_la_len (x : xX) : ∀ A : List Value, (lg_sl (A.map (x_rv x))).length = (x_la A).length := by
  intro A
  induction A with
  | nil => rfl
  | cons v t ih =>
    have e : lg_sl ((v :: t).map (x_rv x)) = (if (x_rv x v).category = 2 then [Slot.val (x_rv x v), .second] else [.val (x_rv x v)]) ++ lg_sl (t.map (x_rv x)) := by simp [lg_sl]
    rw [e, List.length_append, ih, x_la, x_rv_cat]
    split <;> simp <;> omega
theorem x_la_mem (x : xX) : ∀ (A : List Value) (i0 i : Nat) (v : Value), (x_la A)[i]? = some (some v) → (i0 + i, x_rv x v) ∈ lv_args i0 (A.map (x_rv x)) := by
  intro A
  induction A with
  | nil => intro i0 i v h; simp [x_la] at h
  | cons w t ih =>
    intro i0 i v h
    rw [List.map_cons, lv_args, x_rv_cat]
    rw [x_la] at h
    by_cases hc : w.category = 2
    · rw [if_pos hc] at h ⊢
      match i, h with
      | 0, h => cases h; exact List.mem_cons_self
      | 1, h => cases h
      | i + 2, h =>
        have := ih (i0 + 2) i v h
        rw [show i0 + (i + 2) = i0 + 2 + i by omega]
        exact List.mem_cons_of_mem _ this
    · rw [if_neg hc] at h ⊢
      match i, h with
      | 0, h => cases h; exact List.mem_cons_self
      | i + 1, h =>
        have := ih (i0 + 1) i v h
        rw [show i0 + (i + 1) = i0 + 1 + i by omega]
        exact List.mem_cons_of_mem _ this
theorem xLv.entry {x : xX} {A : List Value} {nL : Nat} (h : (x_la A).length ≤ nL) : xLv x nL (x_L0 A nL) ((lg_sl (A.map (x_rv x)) ++ List.replicate (nL - (lg_sl (A.map (x_rv x))).length) Slot.unset).toArray) := by
  have hE := lv_entry (A.map (x_rv x)) (n := nL) (by rw [x_la_len]; exact h)
  refine ⟨by simp [x_L0]; omega, hE.1, hE.2.1, fun i v hi => ?_⟩
  rw [x_L0, List.getElem?_append] at hi
  split at hi
  · have := x_la_mem x A 0 i v hi
    rw [Nat.zero_add] at this
    exact hE.2.2 _ this
  · rw [List.getElem?_replicate] at hi
    split at hi <;> simp at hi
theorem xCt.of {l : Launch} {x : xX} {d mc ms : Nat} {μ : xM} {A : List Value} {H : xH} {Q : xO → xH → Prop} (hy : plainName μ.1.cls = true) (ho : x_cn μ.2.2.2.2.1 = μ.1.cls) (hck : x_ck μ.2.1 0 μ.2.2.2.2.2 = true) (hl : (x_la A).length ≤ μ.2.2.1) (hh : x_hd μ.1 = [])
    (h : xW l x d mc ms μ H.length Q true 0 (x_L0 A μ.2.2.1) [] H 0 0) : xCt l x d mc ms μ A H Q := by
  refine MetFree.of_bodyS (code := μ.2.1) (maxLocals := μ.2.2.1) (ret := μ.2.2.2.1) hy ?_ ?_
  · intro args s m hp hn
    obtain ⟨meth, c, h1, h2, h3, h4, h5, h6, -, -⟩ := Cond.code_spec hn (atoms_spec (ws := xws μ) hp _ List.mem_cons_self)
    exact ⟨meth, c, h1, h2, h3, h4, h5, h6⟩
  · intro p e s m args below meth c s₁ B hml hP _
    obtain ⟨rfl, hR, hsz, hK⟩ := hP
    have hh0 : s₁.heap = s.heap := by rw [B.state]; rfl
    have hts := atoms_spec (ws := xws μ) B.pre
    have hE : xE x μ H.length p s m _ meth c := ⟨B.exec, B.bytes, B.returns, hml, by rw [ho]; exact findClass_of_methodNamed B.named, fun w hw => hts w (List.mem_cons_of_mem _ hw), B.notSynchronized, (name_of_methodNamed B.named B.method).1, hsz, hK, (by rw [hh, Array.isEmpty_iff.mp (B.noHandlers (hts _ List.mem_cons_self))]; rfl), hck⟩
    have w := h p e s m _ below meth c _ s.heap [] hE hR va_S.rf (xLv.entry hl) rfl (fun _ => ⟨rfl, rfl⟩)
    rw [show x_pc μ.2.2.2.2.2 0 = 0 by cases μ.2.2.2.2.2 <;> rfl] at w
    have w2 : W p l e (xrm d mc ms) s m ((A.map (x_rv x)).toArray) below meth c s.heap [] 0 0 (xMQ x H.length mc ms Q below s) (entryFrame m (A.map (x_rv x)).toArray μ.2.2.1) := by rw [lg_entry_eq]; exact w
    obtain ⟨t, a1, o, b1, b2, b3⟩ := w2 s₁ hh0 (Stand.of_body B)
    exact ⟨t, o, a1, b1, b2, b3⟩
section XRet
variable {l : Launch} {x : xX} {d mc ms : Nat} {μ : xM} {n0 : Nat} {Q : xO → xH → Prop} {cl : Bool} {k : Nat} {L : xL} {S : List Value} {H : xH} {uc us : Nat}
variable {a b : Int32} {f g : Int64}
theorem xMQ.of {r : xO} {below : List Frame} {args : Array Value} {s t : State} {Hh : Heap} {locs : List Loc} (hq : Q r H) (hR : xR x H Hh) (hS : va_S (xA x) s.heap Hh locs) (hn : H.length = n0 + mc) (h : MQ below (fun _ _ o u => o = x_out x r ∧ u.heap = Hh) args s mc ms (xA x) t) : xMQ x n0 mc ms Q below s t := by
  obtain ⟨o, h1, h2, ⟨h3, h4⟩, L, ⟨-, h5, h6⟩, h7⟩ := h
  exact ⟨o, h1, h2, r, H, h3, hq, by rw [h4]; exact hR, hn, hS.F h4, L, h5, h6, h7⟩
theorem xs_iret (hc : μ.2.2.2.2.2[k]? = some .ireturn) (hr : μ.2.2.2.1 = some .int) (huc : uc = mc) (hus : us ≤ ms) (hq : Q (.inl (some (.int a))) H) : xW l x d mc ms μ n0 Q cl k L [.int a] H uc us := by
  intro p e s m args below meth c ls Hh locs E R hS hL hn hcn
  subst huc
  refine W.widen (Nat.le_refl _) hus (xW_mono (fun t ht => xMQ.of (args := args) hq R hS hn ht) ?_)
  exact W.iret (v := a) E.1 E.2.1 (E.2.2.1.trans hr) (fun t ht hW => ⟨rfl, ht⟩) hS.2.2 (E.dec hc) (hlocks := E.2.2.2.2.2.2.1)
theorem xs_zret (hc : μ.2.2.2.2.2[k]? = some .ireturn) (hr : μ.2.2.2.1 = some .boolean) (hz : narrow .boolean (.int a) = .int a) (huc : uc = mc) (hus : us ≤ ms) (hq : Q (.inl (some (.int a))) H) : xW l x d mc ms μ n0 Q cl k L [.int a] H uc us := by
  intro p e s m args below meth c ls Hh locs E R hS hL hn hcn
  subst huc
  refine W.widen (Nat.le_refl _) hus (xW_mono (fun t ht => xMQ.of (args := args) hq R hS hn ht) ?_)
  exact W.zret (v := a) E.1 E.2.1 (E.2.2.1.trans hr) hz (fun t ht hW => ⟨rfl, ht⟩) hS.2.2 (E.dec hc) (hlocks := E.2.2.2.2.2.2.1)
theorem xs_lret (hc : μ.2.2.2.2.2[k]? = some .lreturn) (hr : μ.2.2.2.1 = some .long) (huc : uc = mc) (hus : us ≤ ms) (hq : Q (.inl (some (.long f))) H) : xW l x d mc ms μ n0 Q cl k L [.long f] H uc us := by
  intro p e s m args below meth c ls Hh locs E R hS hL hn hcn
  subst huc
  refine W.widen (Nat.le_refl _) hus (xW_mono (fun t ht => xMQ.of (args := args) hq R hS hn ht) ?_)
  exact W.lret (v := f) E.1 E.2.1 (E.2.2.1.trans hr) (fun t ht hW => ⟨rfl, ht⟩) hS.2.2 (E.dec hc) (hlocks := E.2.2.2.2.2.2.1)
theorem xs_vret (hc : μ.2.2.2.2.2[k]? = some .return_) (hr : μ.2.2.2.1 = none) (huc : uc = mc) (hus : us ≤ ms) (hq : Q (.inl none) H) : xW l x d mc ms μ n0 Q cl k L [] H uc us := by
  intro p e s m args below meth c ls Hh locs E R hS hL hn hcn
  subst huc
  refine W.widen (Nat.le_refl _) hus (xW_mono (fun t ht => xMQ.of (args := args) hq R hS hn ht) ?_)
  exact W.vret E.1 E.2.1 (E.2.2.1.trans hr) (fun t ht hW => ⟨rfl, ht⟩) hS.2.2 (E.dec hc) (hlocks := E.2.2.2.2.2.2.1)
/-- the heap grows by a cell -/
theorem xR.push {Hh H1 : Heap} {cE : va_E} (hR : xR x H Hh) (hs : Hh.size + 2 = x.1 + H.length) (ho : ∀ q, q < Hh.size → H1[q]? = Hh[q]?) (ha : va_at x.2.2.2.1 x_cl (Hh.size, x_mE x cE) H1) : xR x (H ++ [cE]) H1 := by
  obtain ⟨t, rfl⟩ := hR.two
  refine ⟨?_, rfl, rfl, by simp⟩
  show va_P x.2.2.2.1 x_cl (x_ws x 0 (t ++ [cE])) H1
  rw [x_ws_app]
  refine (hR.1.kept (fun k q hq => ho _ ((hR.1 k q hq).lt))).app (fun k q hq => ?_)
  have hz : k < 1 := (List.getElem?_eq_some_iff.mp hq).1
  rw [show k = 0 by omega] at hq
  cases hq
  have : x.1 + (0 + t.length) = Hh.size := by simp only [List.length_cons] at hs; omega
  rw [this]
  exact ha
theorem x_ad_len (h : 2 ≤ H.length) {Hh : Heap} (hs : Hh.size + 2 = x.1 + H.length) : x_ad x H.length = Hh.size := by
  obtain ⟨q, hq⟩ : ∃ q, H.length = q + 2 := ⟨H.length - 2, by omega⟩
  rw [hq] at hs ⊢
  show x.1 + q = Hh.size
  omega
theorem va_S.push {A : Nat → Prop} {H0 Hh H1 : Heap} {locs : List Loc} (hS : va_S A H0 Hh locs) (hz : H1.size = Hh.size + 1) (ho : ∀ q, q < Hh.size → H1[q]? = Hh[q]?) : va_S A H0 H1 locs :=
  ⟨Nat.le_trans hS.1 (by omega), fun q h1 h2 => (ho q (Nat.lt_of_lt_of_le h1 hS.1)).trans (hS.2.1 q h1 h2), hS.2.2⟩
theorem xE.size {p : Program} {s : State} {m : MethodId} {args : Array Value} {meth : Method} {c : Code} {Hh : Heap} {locs : List Loc} (E : xE x μ n0 p s m args meth c) (R : xR x H Hh) (hS : va_S (xA x) s.heap Hh locs) (hn : H.length = n0 + uc) (h : Hh.size ≤ s.heap.size + uc) : Hh.size + 2 = x.1 + H.length := by
  have h1 := R.size (Nat.le_trans E.2.2.2.2.2.2.2.2.2.1.2.2.2.2.2.1 hS.1)
  have h2 := E.2.2.2.2.2.2.2.2.1
  omega
def x_dv (ty : FieldType) : Value := match ty with
  | .int => .int 0
  | _ => .null
def x_df (ci n : Nat) : List Value := (List.range n).map (fun k => x_dv (x_tys ci k))
/-- a new object of a class of the list, with its blank fields -/
theorem xs_new {idx ci N : Nat} {C : String} {T : u_T} (hc : μ.2.2.2.2.2[k]? = some (.new idx)) (hN : x_NC μ.2.2.2.2.1 idx ci N) (hcl : x_cl[ci]? = some (C, T, N)) (hC : x_cn ci = C) (hdv : ∀ j, j < N → defaultValue (x_tys ci j) = x_dv (x_tys ci j)) (hu : uc + 1 ≤ mc) (hu2 : us + N ≤ ms)
    (kk : xW l x d mc ms μ n0 Q false (k + 1) L (.ref H.length :: S) (H ++ [.inr (ci, x_df ci N)]) (uc + 1) (us + N)) : xW l x d mc ms μ n0 Q cl k L S H uc us := by
  intro p e s m args below meth c ls Hh locs E R hS hL hn hcn
  refine xW_size (fun hsz => ?_)
  have hs := E.size R hS hn hsz
  obtain ⟨h1, h2, h3⟩ := hN
  have hok := x_okc_all ci _ hcl
  have hKn := E.2.2.2.2.2.2.2.2.2.1.1.1 ci _ hcl
  rw [hC] at h1 h2 h3
  refine W.newcK E.1 E.2.1 E.2.2.2.2.1 (E.2.2.2.2.2.1 _ h1) (E.2.2.2.2.2.1 _ h2) (E.2.2.2.2.2.1 _ h3) rfl (E.dec hc) hu hu2 hKn.2.1 rfl (fun H1 kC hkC e1 z1 o1 => ?_)
  have hb := (u_born (x_tys ci) E.2.2.2.2.2.1 hok.1 hKn hkC e1 hok.2.1).to (V' := vp_V ((x_df ci N).map (x_rv x))) (fun j hj => by
    rw [hdv j hj]
    simp [vp_V, x_df, hj]
    cases x_tys ci j <;> rfl)
  have := kk p e s m args below meth c ls H1 locs E (R.push (cE := .inr (ci, x_df ci N)) hs o1 ⟨_, hcl, hb⟩) (hS.push z1 o1) hL (by rw [List.length_append, hn]; rfl) (fun h => by cases h)
  rw [x_pcS _ _ _ hc] at this
  rw [List.map_cons, x_rv, x_ad_len R.2.2.2 hs] at this
  exact this
/-- a new exception: its fields aren't looked at -/
theorem xs_newE {idx ci N : Nat} {C : String} {T : u_T} (hc : μ.2.2.2.2.2[k]? = some (.new idx)) (hN : x_NC μ.2.2.2.2.1 idx ci N) (hcl : x_cl[ci]? = some (C, T, 0)) (hC : x_cn ci = C) (hu : uc + 1 ≤ mc) (hu2 : us + N ≤ ms)
    (kk : xW l x d mc ms μ n0 Q false (k + 1) L (.ref H.length :: S) (H ++ [.inr (ci, [])]) (uc + 1) (us + N)) : xW l x d mc ms μ n0 Q cl k L S H uc us := by
  intro p e s m args below meth c ls Hh locs E R hS hL hn hcn
  refine xW_size (fun hsz => ?_)
  have hs := E.size R hS hn hsz
  obtain ⟨h1, h2, h3⟩ := hN
  have hKn := E.2.2.2.2.2.2.2.2.2.1.1.1 ci _ hcl
  rw [hC] at h1 h2 h3
  refine W.newcK E.1 E.2.1 E.2.2.2.2.1 (E.2.2.2.2.2.1 _ h1) (E.2.2.2.2.2.1 _ h2) (E.2.2.2.2.2.1 _ h3) rfl (E.dec hc) hu hu2 hKn.2.1 rfl (fun H1 kC hkC e1 z1 o1 => ?_)
  have := kk p e s m args below meth c ls H1 locs E (R.push (cE := .inr (ci, [])) hs o1 ⟨_, hcl, ⟨_, e1, rfl, rfl, fun j hj => absurd hj (Nat.not_lt_zero j)⟩⟩) (hS.push z1 o1) hL (by rw [List.length_append, hn]; rfl) (fun h => by cases h)
  rw [x_pcS _ _ _ hc] at this
  rw [List.map_cons, x_rv, x_ad_len R.2.2.2 hs] at this
  exact this
/-- the kinds of arrays that are made -/
def x_ka (t : ArrayType) : Nat := match t with
  | .int => 0
  | .byte => 1
  | .long => 2
  | _ => 3
def x_a0 (t : ArrayType) (n : Nat) : vp_A := match t with
  | .long => (n, .inr (.inl (fun _ => 0)))
  | _ => (n, .inl (fun _ => 0))
theorem xs_newa {t : ArrayType} (hc : μ.2.2.2.2.2[k]? = some (.newarray t)) (ht : t = .int ∨ t = .byte ∨ t = .long ∨ t = .boolean) (hw : Cond.arrayClass (newarray.typeOf t) ∈ x_tw) {n : Nat} (hna : a = nI n) (hn31 : n < 2 ^ 26) (hu : uc + 1 ≤ mc) (hu2 : us + n ≤ ms)
    (kk : xW l x d mc ms μ n0 Q false (k + 1) L (.ref H.length :: S) (H ++ [.inl (x_ka t, x_a0 t n)]) (uc + 1) (us + n)) : xW l x d mc ms μ n0 Q cl k L (.int a :: S) H uc us := by
  intro p e s m args below meth c ls Hh locs E R hS hL hn hcn
  subst hna
  refine xW_size (fun hsz => ?_)
  have hs := E.size R hS hn hsz
  have hcl : (nI n).toNatClampNeg = n := nI_clamp (by omega)
  refine va_newaK E.1 E.2.1 (E.2.2.2.2.2.1 _ hw) rfl (E.dec hc) rfl (nI_pos (by omega)) hcl (by rcases ht with rfl | rfl | rfl | rfl <;> simp [componentBytes, newarray.typeOf] <;> omega) hu hu2 rfl (fun H1 cA e1 z1 o1 hAr hNm => ?_)
  have hK := E.2.2.2.2.2.2.2.2.2.1.1.2
  have hcA : cA = x.2.2.2.2.1 (x_ka t) := by
    rcases ht with rfl | rfl | rfl | rfl
    · exact Option.some.inj (hNm.symm.trans (hK 0 _ rfl).2)
    · exact Option.some.inj (hNm.symm.trans (hK 1 _ rfl).2)
    · exact Option.some.inj (hNm.symm.trans (hK 2 _ rfl).2)
    · exact Option.some.inj (hNm.symm.trans (hK 3 _ rfl).2)
  have hat : va_at x.2.2.2.1 x_cl (Hh.size, x_mE x (.inl (x_ka t, x_a0 t n))) H1 := by
    show H1[Hh.size]? = some (vp_cell (x.2.2.2.2.1 (x_ka t)) (x_a0 t n))
    rw [e1, hcA]
    rcases ht with rfl | rfl | rfl | rfl <;> rfl
  have := kk p e s m args below meth c ls H1 locs E (R.push hs o1 hat) (hS.push z1 o1) hL (by rw [List.length_append, hn]; rfl) (fun h => by cases h)
  rw [x_pcS _ _ _ hc] at this
  rw [List.map_cons, x_rv, x_ad_len R.2.2.2 hs] at this
  exact this
/-- Object's constructor: nothing -/
theorem xs_obj {idx r : Nat} (hc : μ.2.2.2.2.2[k]? = some (.invokespecial idx)) (h1 : Cond.methodLink (x_cn μ.2.2.2.2.1) idx Lib.objectInit ∈ x_tw) (h2 : Cond.instanceMethod Lib.objectInit ∈ x_tw) (h3 : Cond.code Lib.objectInit ⟨#[0xb1]⟩ 1 none ∈ x_tw) (hd : 1 ≤ d) (hroom : (S.map (fun v => v.category)).sum ≤ 8)
    (kk : xW l x d mc ms μ n0 Q cl (k + 1) L S H uc us) : xW l x d mc ms μ n0 Q cl k L (.ref r :: S) H uc us := by
  refine xW.go (fun p e s m args below meth c ls Hh locs Qw E R hS hL w => ?_) kk
  have hw := w ls hL
  rw [x_pcS _ _ _ hc] at hw
  refine W.objInit E.1 E.2.1 E.2.2.2.2.1 (E.2.2.2.2.2.1 _ h1) (E.2.2.2.2.2.1 _ h2) (E.2.2.2.2.2.1 _ h3) rfl (by rw [E.2.2.2.1]; exact hL.2.1) rfl (E.dec hc) hd ?_ hw
  have hsum : ((S.map (x_rv x)).map (fun v => v.category)).sum = (S.map (fun v => v.category)).sum := by rw [List.map_map]; congr 1; exact List.map_congr_left (fun v _ => x_rv_cat x v)
  have hm : (F0 m (x_pc μ.2.2.2.2.2 k) ls ((.ref r :: S).map (x_rv x))).monitorRoom = 0 := rfl
  rw [hm, hsum]
  show 2 * 0 + _ + 12 ≤ 48 * d
  omega
end XRet
end
section
/-- what a call needs of the callee's own words -/
def x_LB (μ' : xM) (n : Nat) : Prop := Cond.initialized μ'.1.cls ∈ x_tw ∧ Cond.code μ'.1 μ'.2.1 μ'.2.2.1 μ'.2.2.2.1 ∈ x_tw ∧ (μ'.1.cls ≠ "java/lang/invoke/MethodHandle" ∧ μ'.1.cls ≠ "java/lang/invoke/VarHandle" ∧ (parseMethodDescriptor μ'.1.desc).map (fun d => d.parameters.length) = some n) ∧ μ'.2.2.1 ≤ 29
def x_LV (own idx : Nat) (μ' : xM) (n : Nat) : Prop := Cond.methodLink (x_cn own) idx μ'.1 ∈ x_tw ∧ Cond.instanceMethod μ'.1 ∈ x_tw ∧ Cond.selects μ'.1.cls μ'.1 μ'.1 ∈ x_tw ∧ x_LB μ' n
def x_LS (own idx : Nat) (μ' : xM) (n : Nat) : Prop := Cond.methodLink (x_cn own) idx μ'.1 ∈ x_tw ∧ Cond.static μ'.1 ∈ x_tw ∧ x_LB μ' n
def x_LSN (own idx : Nat) (μ' : xM) (n : Nat) : Prop := Cond.methodLinkNest (x_cn own) idx μ'.1 "RowPacker" ∈ x_tw ∧ Cond.static μ'.1 ∈ x_tw ∧ x_LB μ' n
def x_LI (own idx : Nat) (μ' : xM) (n : Nat) : Prop := Cond.methodLink (x_cn own) idx μ'.1 ∈ x_tw ∧ Cond.instanceMethod μ'.1 ∈ x_tw ∧ μ'.1.name = "<init>" ∧ μ'.2.2.2.1 = none ∧ x_LB μ' n
def x_LIN (own idx : Nat) (μ' : xM) (n : Nat) : Prop := Cond.methodLinkNest (x_cn own) idx μ'.1 "RowPacker" ∈ x_tw ∧ Cond.instanceMethod μ'.1 ∈ x_tw ∧ μ'.1.name = "<init>" ∧ μ'.2.2.2.1 = none ∧ x_LB μ' n
section XCall
variable {l : Launch} {x : xX} {d mc ms : Nat} {μ μ' : xM} {n0 : Nat} {Q : xO → xH → Prop} {cl : Bool} {k : Nat} {L : xL} {S st As : List Value} {H : xH} {uc us : Nat} {idx n r ci d' mc' ms' : Nat} {fs : List Value} {Qr : Option Value → xH → Prop}
theorem x_catS : ((S.map (x_rv x)).map (fun v => v.category)).sum = (S.map (fun v => v.category)).sum := by rw [List.map_map]; congr 1; exact List.map_congr_left (fun v _ => x_rv_cat x v)
theorem x_LB.ws {n1 : Nat} (hb : x_LB μ' n) {p : Program} {s : State} {m : MethodId} {args : Array Value} {meth : Method} {c : Code} (E : xE x μ n1 p s m args meth c) : ∀ w ∈ xws μ', ∀ (a' : Array Value) (U : State), s.WarmedH U.vm → w.before a' U = true := by
  intro w hw a' U hW
  rcases List.mem_cons.mp hw with rfl | hw
  · exact x_gw.warm (a := args) rfl hW (E.2.2.2.2.2.1 _ hb.2.1)
  · exact x_gw.warm (a := args) (List.mem_filter.mp hw).2 hW (E.2.2.2.2.2.1 _ hw)
theorem x_LB.pn {n1 : Nat} (hb : x_LB μ' n) : ∀ sig, parseMethodDescriptor μ'.1.desc = some sig → n = sig.parameters.length := by
  intro sig h
  have h2 := hb.2.2.1.2.2
  rw [h] at h2
  exact (Option.some.inj h2).symm
theorem xRun.go {p : Program} {e : Env} {s : State} {m : MethodId} {args : Array Value} {below : List Frame} {meth : Method} {c : Code} {ls : Array Slot} {Hh : Heap} {locs : List Loc} {a : Array Value} {st0 : List Value} {i : Instr}
    (hr : va_Run p l e (xrm d mc ms) s m args below meth c Hh locs uc us mc' ms' (F0 m (x_pc μ.2.2.2.2.2 k) ls st0) (S.map (x_rv x)) (xQc x H.length mc' Qr a) (xA x)) (E : xE x μ n0 p s m args meth c) (hS : va_S (xA x) s.heap Hh locs) (hL : xLv x μ.2.2.1 L ls) (hn : H.length = n0 + uc) (hc : μ.2.2.2.2.2[k]? = some i) (hi : x_len i = 3)
    (kk : ∀ v H', Qr v H' → xW l x d mc ms μ n0 Q false (k + 1) L (v.toList ++ S) H' (uc + mc') (us + ms')) : W p l e (xrm d mc ms) s m args below meth c Hh locs uc us (xMQ x n0 mc ms Q below s) (F0 m (x_pc μ.2.2.2.2.2 k) ls st0) := by
  intro T hT X
  obtain ⟨v, st₀, t, T', Lc, h0, X', hLc, e1, e2, ⟨v', H', ev, hq, hR, hl, hF⟩, hg⟩ := hr T hT X
  have ev' : v = v'.map (x_rv x) := by cases ev; rfl
  subst ev'
  have hS' : va_S (xA x) s.heap t.heap (locs ++ Lc) := by
    refine ⟨Nat.le_trans hS.1 (by rw [← h0]; exact hF.1), fun q h1 h2 => ?_, fun q hq => ?_⟩
    · rw [hF.2 q (by rw [h0]; exact Nat.lt_of_lt_of_le h1 hS.1) h2, h0]
      exact hS.2.1 q h1 h2
    · rcases List.mem_append.mp hq with h | h
      · exact hS.2.2 q h
      · exact hLc q h
  have w := kk v' H' hq p e s m args below meth c ls t.heap (locs ++ Lc) E hR hS' hL (by rw [hl, hn]; omega) (fun h => by cases h)
  rw [x_pcS _ _ _ hc, hi, List.map_append, show (v'.toList).map (x_rv x) = (v'.map (x_rv x)).toList by cases v' <;> rfl] at w
  obtain ⟨t2, a1, b1⟩ := w T' e1 X'
  exact ⟨t2, hg t2 a1, b1⟩
theorem xPc.pre {p : Program} {s : State} {m : MethodId} {args : Array Value} {meth : Method} {c : Code} {Hh : Heap} {locs : List Loc} {A : List Value} (E : xE x μ n0 p s m args meth c) (R : xR x H Hh) (hS : va_S (xA x) s.heap Hh locs) (hs : Hh.size + 2 = x.1 + H.length) : ∀ U : State, U.heap = Hh → s.WarmedH U.vm → xPc x A H (A.map (x_rv x)).toArray U := by
  intro U hU hW
  refine ⟨rfl, by rw [hU]; exact R, by rw [hU]; exact hs, ?_⟩
  exact E.2.2.2.2.2.2.2.2.2.1.to hW.alike (by rw [hU]; exact hS)
theorem xs_callV {C : String} {T : u_T} {N : Nat} (hc : μ.2.2.2.2.2[k]? = some (.invokevirtual idx)) (hl : x_LV μ.2.2.2.2.1 idx μ' n) (ct : xCr l x d' mc' ms' μ' (.ref r :: As) H Qr) (hd : d' + 1 ≤ d) (hh : H[r]? = some (.inr (ci, fs))) (hcl : x_cl[ci]? = some (C, T, N)) (hC : C = μ'.1.cls) (hst : st = As.reverse ++ .ref r :: S) (hn : As.length = n) (hroom : (S.map (fun v => v.category)).sum ≤ 8) (hu : uc + mc' ≤ mc) (hu2 : us + ms' ≤ ms)
    (kk : ∀ v H', Qr v H' → xW l x d mc ms μ n0 Q false (k + 1) L (v.toList ++ S) H' (uc + mc') (us + ms')) : xW l x d mc ms μ n0 Q cl k L st H uc us := by
  intro p e s m args below meth c ls Hh locs E R hS hL hn1 hcn
  subst hC
  refine xW_size (fun hsz => ?_)
  have hs := E.size R hS hn1 hsz
  obtain ⟨l1, l2, l3, lb⟩ := hl
  have hts := E.2.2.2.2.2.1
  have hrec := va_recv E.2.2.2.2.2.2.2.2.2.1.1 R.1 hcl (xR.at (x := x) (Hh := Hh) hh (R.ge hh))
  refine xRun.go (i := .invokevirtual idx) (H := H) (va_runV (Ts := x_tw) (own := x_cn μ.2.2.2.2.1) (C := μ'.1.cls) (As := As.map (x_rv x)) (b := x_ad x r) (n := n) (cc := μ.2.1) (nL := μ.2.2.1) (index := idx) ⟨E.1, E.2.1, E.2.2.2.1, E.2.2.2.2.1, hts⟩ ct.met ⟨⟨rfl, rfl, hd, (by have := lb.2.2.2; show 8 + (μ'.2.2.1 + 11) + 48 * d' ≤ 48 * d; omega), lb.ws E, List.mem_cons_self, hts _ lb.2.1, hts _ lb.1, ⟨lb.2.2.1.1, lb.2.2.1.2.1⟩, lb.pn (n1 := 0), hts _ l1⟩, hts _ l2, hts _ l3⟩ ⟨xPc.blind, hrec, xPc.pre (A := .ref r :: As) E R hS hs⟩ rfl (by rw [List.length_map]; exact hn) hL.2.1 (by rw [hst, List.map_append, List.map_reverse]; rfl) (lv_room (by rw [x_catS]; exact hroom)) (E.dec hc) ⟨hu, hu2⟩) E hS hL hn1 hc rfl kk
theorem xs_callS (hc : μ.2.2.2.2.2[k]? = some (.invokestatic idx)) (hl : x_LS μ.2.2.2.2.1 idx μ' n) (ct : xCr l x d' mc' ms' μ' As H Qr) (hd : d' + 1 ≤ d) (hst : st = As.reverse ++ S) (hn : As.length = n) (hroom : (S.map (fun v => v.category)).sum ≤ 8) (hu : uc + mc' ≤ mc) (hu2 : us + ms' ≤ ms)
    (kk : ∀ v H', Qr v H' → xW l x d mc ms μ n0 Q false (k + 1) L (v.toList ++ S) H' (uc + mc') (us + ms')) : xW l x d mc ms μ n0 Q cl k L st H uc us := by
  intro p e s m args below meth c ls Hh locs E R hS hL hn1 hcn
  refine xW_size (fun hsz => ?_)
  have hs := E.size R hS hn1 hsz
  obtain ⟨l1, l2, lb⟩ := hl
  have hts := E.2.2.2.2.2.1
  refine xRun.go (i := .invokestatic idx) (H := H) (va_runS (Ts := x_tw) (own := x_cn μ.2.2.2.2.1) (As := As.map (x_rv x)) (n := n) (cc := μ.2.1) (nL := μ.2.2.1) (index := idx) ⟨E.1, E.2.1, E.2.2.2.1, E.2.2.2.2.1, hts⟩ ct.met ⟨⟨rfl, rfl, hd, (by have := lb.2.2.2; show 8 + (μ'.2.2.1 + 11) + 48 * d' ≤ 48 * d; omega), lb.ws E, List.mem_cons_self, hts _ lb.2.1, hts _ lb.1, ⟨lb.2.2.1.1, lb.2.2.1.2.1⟩, lb.pn (n1 := 0), hts _ l1⟩, hts _ l2⟩ ⟨xPc.blind, xPc.pre (A := As) E R hS hs⟩ rfl (by rw [List.length_map]; exact hn) hL.2.1 (by rw [hst, List.map_append, List.map_reverse]) (lv_room (by rw [x_catS]; exact hroom)) (E.dec hc) ⟨hu, hu2⟩) E hS hL hn1 hc rfl kk
theorem xs_callSN (hc : μ.2.2.2.2.2[k]? = some (.invokestatic idx)) (hl : x_LSN μ.2.2.2.2.1 idx μ' n) (ct : xCr l x d' mc' ms' μ' As H Qr) (hd : d' + 1 ≤ d) (hst : st = As.reverse ++ S) (hn : As.length = n) (hroom : (S.map (fun v => v.category)).sum ≤ 8) (hu : uc + mc' ≤ mc) (hu2 : us + ms' ≤ ms)
    (kk : ∀ v H', Qr v H' → xW l x d mc ms μ n0 Q false (k + 1) L (v.toList ++ S) H' (uc + mc') (us + ms')) : xW l x d mc ms μ n0 Q cl k L st H uc us := by
  intro p e s m args below meth c ls Hh locs E R hS hL hn1 hcn
  refine xW_size (fun hsz => ?_)
  have hs := E.size R hS hn1 hsz
  obtain ⟨l1, l2, lb⟩ := hl
  have hts := E.2.2.2.2.2.1
  refine xRun.go (i := .invokestatic idx) (H := H) (va_runSN (Ts := x_tw) (own := x_cn μ.2.2.2.2.1) (host := "RowPacker") (As := As.map (x_rv x)) (n := n) (cc := μ.2.1) (nL := μ.2.2.1) (index := idx) ⟨E.1, E.2.1, E.2.2.2.1, E.2.2.2.2.1, hts⟩ ct.met ⟨⟨⟨rfl, rfl, hd, (by have := lb.2.2.2; show 8 + (μ'.2.2.1 + 11) + 48 * d' ≤ 48 * d; omega), lb.ws E, List.mem_cons_self⟩, hts _ lb.2.1, hts _ lb.1, ⟨lb.2.2.1.1, lb.2.2.1.2.1⟩, lb.pn (n1 := 0), hts _ l1⟩, hts _ l2, trivial⟩ ⟨xPc.blind, xPc.pre (A := As) E R hS hs⟩ rfl (by rw [List.length_map]; exact hn) hL.2.1 (by rw [hst, List.map_append, List.map_reverse]) (lv_room (by rw [x_catS]; exact hroom)) (E.dec hc) ⟨hu, hu2⟩) E hS hL hn1 hc rfl kk
theorem xs_callI (hc : μ.2.2.2.2.2[k]? = some (.invokespecial idx)) (hl : x_LI μ.2.2.2.2.1 idx μ' n) (ct : xCr l x d' mc' ms' μ' (.ref r :: As) H Qr) (hd : d' + 1 ≤ d) (hst : st = As.reverse ++ .ref r :: S) (hn : As.length = n) (hroom : (S.map (fun v => v.category)).sum ≤ 8) (hu : uc + mc' ≤ mc) (hu2 : us + ms' ≤ ms)
    (kk : ∀ v H', Qr v H' → xW l x d mc ms μ n0 Q false (k + 1) L (v.toList ++ S) H' (uc + mc') (us + ms')) : xW l x d mc ms μ n0 Q cl k L st H uc us := by
  intro p e s m args below meth c ls Hh locs E R hS hL hn1 hcn
  refine xW_size (fun hsz => ?_)
  have hs := E.size R hS hn1 hsz
  obtain ⟨l1, l2, l3, l4, lb⟩ := hl
  have hts := E.2.2.2.2.2.1
  have hcd := lb.2.1
  rw [l4] at hcd
  refine xRun.go (i := .invokespecial idx) (H := H) (va_runI (Ts := x_tw) (own := x_cn μ.2.2.2.2.1) (As := As.map (x_rv x)) (b := x_ad x r) (n := n) (cc := μ.2.1) (nL := μ.2.2.1) (index := idx) (bytes := μ'.2.1) (maxL := μ'.2.2.1) ⟨E.1, E.2.1, E.2.2.2.1, E.2.2.2.2.1, hts⟩ ct.met ⟨⟨rfl, rfl, hd, (by have := lb.2.2.2; show 8 + (μ'.2.2.1 + 11) + 48 * d' ≤ 48 * d; omega), lb.ws E, (by rw [← l4]; exact List.mem_cons_self), hts _ hcd, hts _ lb.1, ⟨lb.2.2.1.1, lb.2.2.1.2.1⟩, lb.pn (n1 := 0), hts _ l1⟩, l3, hts _ l2⟩ ⟨xPc.blind, xPc.pre (A := .ref r :: As) E R hS hs⟩ rfl (by rw [List.length_map]; exact hn) hL.2.1 (by rw [hst, List.map_append, List.map_reverse]; rfl) (lv_room (by rw [x_catS]; exact hroom)) (E.dec hc) ⟨hu, hu2⟩) E hS hL hn1 hc rfl kk
theorem xs_callIN (hc : μ.2.2.2.2.2[k]? = some (.invokespecial idx)) (hl : x_LIN μ.2.2.2.2.1 idx μ' n) (ct : xCr l x d' mc' ms' μ' (.ref r :: As) H Qr) (hd : d' + 1 ≤ d) (hst : st = As.reverse ++ .ref r :: S) (hn : As.length = n) (hroom : (S.map (fun v => v.category)).sum ≤ 8) (hu : uc + mc' ≤ mc) (hu2 : us + ms' ≤ ms)
    (kk : ∀ v H', Qr v H' → xW l x d mc ms μ n0 Q false (k + 1) L (v.toList ++ S) H' (uc + mc') (us + ms')) : xW l x d mc ms μ n0 Q cl k L st H uc us := by
  intro p e s m args below meth c ls Hh locs E R hS hL hn1 hcn
  refine xW_size (fun hsz => ?_)
  have hs := E.size R hS hn1 hsz
  obtain ⟨l1, l2, l3, l4, lb⟩ := hl
  have hts := E.2.2.2.2.2.1
  have hcd := lb.2.1
  rw [l4] at hcd
  refine xRun.go (i := .invokespecial idx) (H := H) (va_runIN (Ts := x_tw) (own := x_cn μ.2.2.2.2.1) (host := "RowPacker") (As := As.map (x_rv x)) (b := x_ad x r) (n := n) (cc := μ.2.1) (nL := μ.2.2.1) (index := idx) (bytes := μ'.2.1) (maxL := μ'.2.2.1) ⟨E.1, E.2.1, E.2.2.2.1, E.2.2.2.2.1, hts⟩ ct.met ⟨⟨⟨rfl, rfl, hd, (by have := lb.2.2.2; show 8 + (μ'.2.2.1 + 11) + 48 * d' ≤ 48 * d; omega), lb.ws E, (by rw [← l4]; exact List.mem_cons_self)⟩, hts _ hcd, hts _ lb.1, ⟨lb.2.2.1.1, lb.2.2.1.2.1⟩, lb.pn (n1 := 0), hts _ l1⟩, l3, hts _ l2⟩ ⟨xPc.blind, xPc.pre (A := .ref r :: As) E R hS hs⟩ rfl (by rw [List.length_map]; exact hn) hL.2.1 (by rw [hst, List.map_append, List.map_reverse]; rfl) (lv_room (by rw [x_catS]; exact hroom)) (E.dec hc) ⟨hu, hu2⟩) E hS hL hn1 hc rfl kk
end XCall
end
section
def gI (H : xH) (r ci k : Nat) (a : Int32) : Prop := ∃ fs, H[r]? = some (.inr (ci, fs)) ∧ fs[k]? = some (.int a)
def gR (H : xH) (r ci k : Nat) (q : Nat) : Prop := ∃ fs, H[r]? = some (.inr (ci, fs)) ∧ fs[k]? = some (.ref q)
section XV
variable {l : Launch} {x : xX} {d mc ms : Nat} {μ : xM} {n0 : Nat} {Q : xO → xH → Prop} {cl : Bool} {k : Nat} {L L' : xL} {S : List Value} {H : xH} {uc us i : Nat} {n : Int} {v w a : Int32}
theorem xs_iconstV (hc : μ.2.2.2.2.2[k]? = some (.iconst n)) (hv : Int32.ofInt n = v) (kk : xW l x d mc ms μ n0 Q cl (k + 1) L (.int v :: S) H uc us) : xW l x d mc ms μ n0 Q cl k L S H uc us := by
  subst hv; exact xs_iconst hc kk
theorem xs_bipushV (hc : μ.2.2.2.2.2[k]? = some (.bipush n)) (hv : (Int8.ofInt n).toInt32 = v) (kk : xW l x d mc ms μ n0 Q cl (k + 1) L (.int v :: S) H uc us) : xW l x d mc ms μ n0 Q cl k L S H uc us := by
  subst hv; exact xs_bipush hc kk
theorem xs_sipushV (hc : μ.2.2.2.2.2[k]? = some (.sipush n)) (hv : (Int16.ofInt n).toInt32 = v) (kk : xW l x d mc ms μ n0 Q cl (k + 1) L (.int v :: S) H uc us) : xW l x d mc ms μ n0 Q cl k L S H uc us := by
  subst hv; exact xs_sipush hc kk
theorem xs_lconstV {n : Fin 2} {v : Int64} (hc : μ.2.2.2.2.2[k]? = some (.lconst n)) (hv : Int64.ofNat (n : Nat) = v) (kk : xW l x d mc ms μ n0 Q cl (k + 1) L (.long v :: S) H uc us) : xW l x d mc ms μ n0 Q cl k L S H uc us := by
  subst hv; exact xs_lconst hc kk
theorem xs_iincV (hc : μ.2.2.2.2.2[k]? = some (.iinc i n)) (hv : Int32.ofInt n = w) (hl : L[i]? = some (some (.int a))) (hL' : x_st L i (.int (a + w)) = L') (hok : x_sok L i = true) (kk : xW l x d mc ms μ n0 Q cl (k + 1) L' S H uc us) : xW l x d mc ms μ n0 Q cl k L S H uc us := by
  subst hv; exact xs_iinc hc hl hL' hok kk
end XV
end
section
theorem x_sel {q : MethodName × Nat} (h : q ∈ lw_privs) : Cond.selects q.1.cls q.1 q.1 ∈ x_tw := List.mem_filter.mpr ⟨List.mem_append_left _ (List.mem_map.mpr ⟨q, h, rfl⟩), rfl⟩
theorem lb_RP_init : x_LB mRP_init 0 := ⟨x_tb1 (List.mem_of_getElem? (i := 1) rfl), x_tb1 (List.mem_of_getElem? (i := 36) rfl), by decide +kernel, by decide⟩
theorem lb_RO_init : x_LB mRO_init 1 := ⟨x_tb1 (List.mem_of_getElem? (i := 2) rfl), x_tb1 (List.mem_of_getElem? (i := 45) rfl), by decide +kernel, by decide⟩
theorem lb_RE_init : x_LB mRE_init 0 := ⟨x_tb1 (List.mem_of_getElem? (i := 3) rfl), x_tb1 (List.mem_of_getElem? (i := 68) rfl), by decide +kernel, by decide⟩
theorem lb_SU_init : x_LB mSU_init 0 := ⟨x_tb1 (List.mem_of_getElem? (i := 4) rfl), x_tb1 (List.mem_of_getElem? (i := 100) rfl), by decide +kernel, by decide⟩
theorem lb_PK_init : x_LB mPK_init 4 := ⟨x_tb1 (List.mem_of_getElem? (i := 5) rfl), x_tb1 (List.mem_of_getElem? (i := 111) rfl), by decide +kernel, by decide⟩
theorem lb_WC_init : x_LB mWC_init 1 := ⟨x_tb1 (List.mem_of_getElem? (i := 6) rfl), x_tb1 (List.mem_of_getElem? (i := 117) rfl), by decide +kernel, by decide⟩
theorem lb_MC_init : x_LB mMC_init 0 := ⟨x_tb1 (List.mem_of_getElem? (i := 7) rfl), x_tb1 (List.mem_of_getElem? (i := 137) rfl), by decide +kernel, by decide⟩
theorem lb_WE_init : x_LB mWE_init 0 := ⟨x_tb1 (List.mem_of_getElem? (i := 8) rfl), x_tb1 (List.mem_of_getElem? (i := 145) rfl), by decide +kernel, by decide⟩
theorem lb_FI_init : x_LB mFI_init 1 := ⟨x_tb1 (List.mem_of_getElem? (i := 9) rfl), x_tb1 (List.mem_of_getElem? (i := 210) rfl), by decide +kernel, by decide⟩
theorem lb_BW_init : x_LB mBW_init 1 := ⟨x_tb1 (List.mem_of_getElem? (i := 10) rfl), x_tb2 (List.mem_of_getElem? (i := 1) rfl), by decide +kernel, by decide⟩
theorem lb_RP_fixedLength : x_LB mRP_fixedLength 1 := ⟨x_tb1 (List.mem_of_getElem? (i := 1) rfl), x_tb2 (List.mem_of_getElem? (i := 15) rfl), by decide +kernel, by decide⟩
theorem lb_AR_fill : x_LB mAR_fill 2 := ⟨x_tb1 (List.mem_of_getElem? (i := 11) rfl), x_tb2 (List.mem_of_getElem? (i := 18) rfl), by decide +kernel, by decide⟩
theorem lb_WC_makeWords : x_LB mWC_makeWords 0 := ⟨x_tb1 (List.mem_of_getElem? (i := 6) rfl), x_tb2 (List.mem_of_getElem? (i := 22) rfl), by decide +kernel, by decide⟩
theorem lb_WC_turnedRound : x_LB mWC_turnedRound 2 := ⟨x_tb1 (List.mem_of_getElem? (i := 6) rfl), x_tb2 (List.mem_of_getElem? (i := 26) rfl), by decide +kernel, by decide⟩
theorem lb_UN_init : x_LB mUN_init 4 := ⟨x_tb1 (List.mem_of_getElem? (i := 12) rfl), x_tb2 (List.mem_of_getElem? (i := 80) rfl), by decide +kernel, by decide⟩
theorem lb_RC_init : x_LB mRC_init 0 := ⟨x_tb1 (List.mem_of_getElem? (i := 13) rfl), x_tb2 (List.mem_of_getElem? (i := 86) rfl), by decide +kernel, by decide⟩
theorem lb_RC_make : x_LB mRC_make 3 := ⟨x_tb1 (List.mem_of_getElem? (i := 13) rfl), x_tb2 (List.mem_of_getElem? (i := 108) rfl), by decide +kernel, by decide⟩
theorem lb_RP_fault : x_LB mRP_fault 0 := ⟨x_tb1 (List.mem_of_getElem? (i := 1) rfl), x_tb2 (List.mem_of_getElem? (i := 173) rfl), by decide +kernel, by decide⟩
theorem lb_RP_place : x_LB mRP_place 0 := ⟨x_tb1 (List.mem_of_getElem? (i := 1) rfl), x_tb2 (List.mem_of_getElem? (i := 177) rfl), by decide +kernel, by decide⟩
theorem lb_RP_size : x_LB mRP_size 0 := ⟨x_tb1 (List.mem_of_getElem? (i := 1) rfl), x_tb2 (List.mem_of_getElem? (i := 181) rfl), by decide +kernel, by decide⟩
theorem lb_RP_blocks : x_LB mRP_blocks 0 := ⟨x_tb1 (List.mem_of_getElem? (i := 1) rfl), x_tb2 (List.mem_of_getElem? (i := 185) rfl), by decide +kernel, by decide⟩
theorem lb_RP_stretches : x_LB mRP_stretches 0 := ⟨x_tb1 (List.mem_of_getElem? (i := 1) rfl), x_tb2 (List.mem_of_getElem? (i := 189) rfl), by decide +kernel, by decide⟩
theorem lb_RP_feed : x_LB mRP_feed 5 := ⟨x_tb1 (List.mem_of_getElem? (i := 1) rfl), x_tb2 (List.mem_of_getElem? (i := 197) rfl), by decide +kernel, by decide⟩
theorem lb_RO_addFour : x_LB mRO_addFour 1 := ⟨x_tb1 (List.mem_of_getElem? (i := 2) rfl), x_tb3 (List.mem_of_getElem? (i := 26) rfl), by decide +kernel, by decide⟩
theorem lb_RO_add : x_LB mRO_add 1 := ⟨x_tb1 (List.mem_of_getElem? (i := 2) rfl), x_tb3 (List.mem_of_getElem? (i := 30) rfl), by decide +kernel, by decide⟩
theorem lb_RP_end : x_LB mRP_end 1 := ⟨x_tb1 (List.mem_of_getElem? (i := 1) rfl), x_tb3 (List.mem_of_getElem? (i := 38) rfl), by decide +kernel, by decide⟩
theorem lb_RP_again : x_LB mRP_again 2 := ⟨x_tb1 (List.mem_of_getElem? (i := 1) rfl), x_tb3 (List.mem_of_getElem? (i := 60) rfl), by decide +kernel, by decide⟩
theorem lb_RO_repeat : x_LB mRO_repeat 2 := ⟨x_tb1 (List.mem_of_getElem? (i := 2) rfl), x_tb3 (List.mem_of_getElem? (i := 64) rfl), by decide +kernel, by decide⟩
theorem lb_RP_change : x_LB mRP_change 2 := ⟨x_tb1 (List.mem_of_getElem? (i := 1) rfl), x_tb3 (List.mem_of_getElem? (i := 72) rfl), by decide +kernel, by decide⟩
theorem lb_RO_byteAt : x_LB mRO_byteAt 1 := ⟨x_tb1 (List.mem_of_getElem? (i := 2) rfl), x_tb3 (List.mem_of_getElem? (i := 91) rfl), by decide +kernel, by decide⟩
theorem lb_RP_pack : x_LB mRP_pack 1 := ⟨x_tb1 (List.mem_of_getElem? (i := 1) rfl), x_tb3 (List.mem_of_getElem? (i := 98) rfl), by decide +kernel, by decide⟩
theorem lb_PK_packTape : x_LB mPK_packTape 1 := ⟨x_tb1 (List.mem_of_getElem? (i := 5) rfl), x_tb3 (List.mem_of_getElem? (i := 102) rfl), by decide +kernel, by decide⟩
theorem lb_RE_clear : x_LB mRE_clear 0 := ⟨x_tb1 (List.mem_of_getElem? (i := 3) rfl), x_tb3 (List.mem_of_getElem? (i := 106) rfl), by decide +kernel, by decide⟩
theorem lb_BW_restart : x_LB mBW_restart 0 := ⟨x_tb1 (List.mem_of_getElem? (i := 10) rfl), x_tb3 (List.mem_of_getElem? (i := 110) rfl), by decide +kernel, by decide⟩
theorem lb_FI_restart : x_LB mFI_restart 0 := ⟨x_tb1 (List.mem_of_getElem? (i := 9) rfl), x_tb3 (List.mem_of_getElem? (i := 114) rfl), by decide +kernel, by decide⟩
theorem lb_PK_writeHead : x_LB mPK_writeHead 1 := ⟨x_tb1 (List.mem_of_getElem? (i := 5) rfl), x_tb3 (List.mem_of_getElem? (i := 119) rfl), by decide +kernel, by decide⟩
theorem lb_BW_writeNumber : x_LB mBW_writeNumber 2 := ⟨x_tb1 (List.mem_of_getElem? (i := 10) rfl), x_tb3 (List.mem_of_getElem? (i := 123) rfl), by decide +kernel, by decide⟩
theorem lb_PK_takePieces : x_LB mPK_takePieces 0 := ⟨x_tb1 (List.mem_of_getElem? (i := 5) rfl), x_tb3 (List.mem_of_getElem? (i := 129) rfl), by decide +kernel, by decide⟩
theorem lb_PK_takePiece : x_LB mPK_takePiece 0 := ⟨x_tb1 (List.mem_of_getElem? (i := 5) rfl), x_tb3 (List.mem_of_getElem? (i := 133) rfl), by decide +kernel, by decide⟩
theorem lb_FI_find : x_LB mFI_find 1 := ⟨x_tb1 (List.mem_of_getElem? (i := 9) rfl), x_tb3 (List.mem_of_getElem? (i := 137) rfl), by decide +kernel, by decide⟩
theorem lb_FI_enterPlacesBefore : x_LB mFI_enterPlacesBefore 1 := ⟨x_tb1 (List.mem_of_getElem? (i := 9) rfl), x_tb3 (List.mem_of_getElem? (i := 141) rfl), by decide +kernel, by decide⟩
theorem lb_FI_keyAt : x_LB mFI_keyAt 1 := ⟨x_tb1 (List.mem_of_getElem? (i := 9) rfl), x_tb3 (List.mem_of_getElem? (i := 145) rfl), by decide +kernel, by decide⟩
theorem lb_MA_min : x_LB mMA_min 2 := ⟨x_tb1 (List.mem_of_getElem? (i := 21) rfl), x_tb3 (List.mem_of_getElem? (i := 149) rfl), by decide +kernel, by decide⟩
theorem lb_FI_search : x_LB mFI_search 2 := ⟨x_tb1 (List.mem_of_getElem? (i := 9) rfl), x_tb3 (List.mem_of_getElem? (i := 153) rfl), by decide +kernel, by decide⟩
theorem lb_MA_max : x_LB mMA_max 2 := ⟨x_tb1 (List.mem_of_getElem? (i := 21) rfl), x_tb3 (List.mem_of_getElem? (i := 156) rfl), by decide +kernel, by decide⟩
theorem lb_FI_sameBytes : x_LB mFI_sameBytes 3 := ⟨x_tb1 (List.mem_of_getElem? (i := 9) rfl), x_tb3 (List.mem_of_getElem? (i := 160) rfl), by decide +kernel, by decide⟩
theorem lb_PK_takeStretch : x_LB mPK_takeStretch 2 := ⟨x_tb1 (List.mem_of_getElem? (i := 5) rfl), x_tb3 (List.mem_of_getElem? (i := 164) rfl), by decide +kernel, by decide⟩
theorem lb_RP_lengthSymbol : x_LB mRP_lengthSymbol 1 := ⟨x_tb1 (List.mem_of_getElem? (i := 1) rfl), x_tb3 (List.mem_of_getElem? (i := 167) rfl), by decide +kernel, by decide⟩
theorem lb_RP_bitsAbove : x_LB mRP_bitsAbove 2 := ⟨x_tb1 (List.mem_of_getElem? (i := 1) rfl), x_tb3 (List.mem_of_getElem? (i := 170) rfl), by decide +kernel, by decide⟩
theorem lb_RP_distanceSymbol : x_LB mRP_distanceSymbol 1 := ⟨x_tb1 (List.mem_of_getElem? (i := 1) rfl), x_tb3 (List.mem_of_getElem? (i := 173) rfl), by decide +kernel, by decide⟩
theorem lb_RP_lengthBits : x_LB mRP_lengthBits 1 := ⟨x_tb1 (List.mem_of_getElem? (i := 1) rfl), x_tb3 (List.mem_of_getElem? (i := 176) rfl), by decide +kernel, by decide⟩
theorem lb_RP_distanceBits : x_LB mRP_distanceBits 1 := ⟨x_tb1 (List.mem_of_getElem? (i := 1) rfl), x_tb3 (List.mem_of_getElem? (i := 179) rfl), by decide +kernel, by decide⟩
theorem lb_PK_takeByte : x_LB mPK_takeByte 0 := ⟨x_tb1 (List.mem_of_getElem? (i := 5) rfl), x_tb3 (List.mem_of_getElem? (i := 183) rfl), by decide +kernel, by decide⟩
theorem lb_MC_make : x_LB mMC_make 2 := ⟨x_tb1 (List.mem_of_getElem? (i := 7) rfl), x_tb3 (List.mem_of_getElem? (i := 188) rfl), by decide +kernel, by decide⟩
theorem lb_WE_makeLengths : x_LB mWE_makeLengths 3 := ⟨x_tb1 (List.mem_of_getElem? (i := 8) rfl), x_tb3 (List.mem_of_getElem? (i := 192) rfl), by decide +kernel, by decide⟩
theorem lb_WE_sortSymbols : x_LB mWE_sortSymbols 1 := ⟨x_tb1 (List.mem_of_getElem? (i := 8) rfl), x_tb3 (List.mem_of_getElem? (i := 196) rfl), by decide +kernel, by decide⟩
theorem lb_WE_makeRow : x_LB mWE_makeRow 2 := ⟨x_tb1 (List.mem_of_getElem? (i := 8) rfl), x_tb3 (List.mem_of_getElem? (i := 201) rfl), by decide +kernel, by decide⟩
theorem lb_WE_countSymbols : x_LB mWE_countSymbols 2 := ⟨x_tb1 (List.mem_of_getElem? (i := 8) rfl), x_tb3 (List.mem_of_getElem? (i := 205) rfl), by decide +kernel, by decide⟩
theorem lb_WC_manyWithCode : x_LB mWC_manyWithCode 0 := ⟨x_tb1 (List.mem_of_getElem? (i := 6) rfl), x_tb3 (List.mem_of_getElem? (i := 209) rfl), by decide +kernel, by decide⟩
theorem lb_MC_tellRow : x_LB mMC_tellRow 1 := ⟨x_tb1 (List.mem_of_getElem? (i := 7) rfl), x_tb3 (List.mem_of_getElem? (i := 217) rfl), by decide +kernel, by decide⟩
theorem lb_MC_tellRun : x_LB mMC_tellRun 2 := ⟨x_tb1 (List.mem_of_getElem? (i := 7) rfl), x_tb3 (List.mem_of_getElem? (i := 221) rfl), by decide +kernel, by decide⟩
theorem lb_MC_tell : x_LB mMC_tell 2 := ⟨x_tb1 (List.mem_of_getElem? (i := 7) rfl), x_tb3 (List.mem_of_getElem? (i := 225) rfl), by decide +kernel, by decide⟩
theorem lb_MC_weighTold : x_LB mMC_weighTold 0 := ⟨x_tb1 (List.mem_of_getElem? (i := 7) rfl), x_tb3 (List.mem_of_getElem? (i := 230) rfl), by decide +kernel, by decide⟩
theorem lb_PK_writeBlock : x_LB mPK_writeBlock 1 := ⟨x_tb1 (List.mem_of_getElem? (i := 5) rfl), x_tb3 (List.mem_of_getElem? (i := 237) rfl), by decide +kernel, by decide⟩
theorem lb_BW_bitsWritten : x_LB mBW_bitsWritten 0 := ⟨x_tb1 (List.mem_of_getElem? (i := 10) rfl), x_tb4 (List.mem_of_getElem? (i := 1) rfl), by decide +kernel, by decide⟩
theorem lb_PK_fewestBits : x_LB mPK_fewestBits 1 := ⟨x_tb1 (List.mem_of_getElem? (i := 5) rfl), x_tb4 (List.mem_of_getElem? (i := 5) rfl), by decide +kernel, by decide⟩
theorem lb_WC_bitsFor : x_LB mWC_bitsFor 1 := ⟨x_tb1 (List.mem_of_getElem? (i := 6) rfl), x_tb4 (List.mem_of_getElem? (i := 9) rfl), by decide +kernel, by decide⟩
theorem lb_MC_bitsOfTelling : x_LB mMC_bitsOfTelling 0 := ⟨x_tb1 (List.mem_of_getElem? (i := 7) rfl), x_tb4 (List.mem_of_getElem? (i := 13) rfl), by decide +kernel, by decide⟩
theorem lb_MC_numberBits : x_LB mMC_numberBits 1 := ⟨x_tb1 (List.mem_of_getElem? (i := 7) rfl), x_tb4 (List.mem_of_getElem? (i := 16) rfl), by decide +kernel, by decide⟩
theorem lb_PK_writePlain : x_LB mPK_writePlain 0 := ⟨x_tb1 (List.mem_of_getElem? (i := 5) rfl), x_tb4 (List.mem_of_getElem? (i := 20) rfl), by decide +kernel, by decide⟩
theorem lb_BW_fillByte : x_LB mBW_fillByte 0 := ⟨x_tb1 (List.mem_of_getElem? (i := 10) rfl), x_tb4 (List.mem_of_getElem? (i := 24) rfl), by decide +kernel, by decide⟩
theorem lb_PK_writePieces : x_LB mPK_writePieces 2 := ⟨x_tb1 (List.mem_of_getElem? (i := 5) rfl), x_tb4 (List.mem_of_getElem? (i := 30) rfl), by decide +kernel, by decide⟩
theorem lb_BW_writeSymbol : x_LB mBW_writeSymbol 2 := ⟨x_tb1 (List.mem_of_getElem? (i := 10) rfl), x_tb4 (List.mem_of_getElem? (i := 34) rfl), by decide +kernel, by decide⟩
theorem lb_RP_lengthBase : x_LB mRP_lengthBase 1 := ⟨x_tb1 (List.mem_of_getElem? (i := 1) rfl), x_tb4 (List.mem_of_getElem? (i := 37) rfl), by decide +kernel, by decide⟩
theorem lb_RP_distanceBase : x_LB mRP_distanceBase 1 := ⟨x_tb1 (List.mem_of_getElem? (i := 1) rfl), x_tb4 (List.mem_of_getElem? (i := 41) rfl), by decide +kernel, by decide⟩
theorem lb_MC_writeTelling : x_LB mMC_writeTelling 1 := ⟨x_tb1 (List.mem_of_getElem? (i := 7) rfl), x_tb4 (List.mem_of_getElem? (i := 46) rfl), by decide +kernel, by decide⟩
theorem lb_RE_addBlock : x_LB mRE_addBlock 4 := ⟨x_tb1 (List.mem_of_getElem? (i := 3) rfl), x_tb4 (List.mem_of_getElem? (i := 53) rfl), by decide +kernel, by decide⟩
theorem lb_PK_writeTail : x_LB mPK_writeTail 1 := ⟨x_tb1 (List.mem_of_getElem? (i := 5) rfl), x_tb4 (List.mem_of_getElem? (i := 57) rfl), by decide +kernel, by decide⟩
theorem lb_SU_sumA : x_LB mSU_sumA 3 := ⟨x_tb1 (List.mem_of_getElem? (i := 4) rfl), x_tb4 (List.mem_of_getElem? (i := 61) rfl), by decide +kernel, by decide⟩
theorem lb_BW_writeFour : x_LB mBW_writeFour 2 := ⟨x_tb1 (List.mem_of_getElem? (i := 10) rfl), x_tb4 (List.mem_of_getElem? (i := 68) rfl), by decide +kernel, by decide⟩
theorem lb_SU_sumB : x_LB mSU_sumB 3 := ⟨x_tb1 (List.mem_of_getElem? (i := 4) rfl), x_tb4 (List.mem_of_getElem? (i := 72) rfl), by decide +kernel, by decide⟩
theorem lb_RP_unpack : x_LB mRP_unpack 1 := ⟨x_tb1 (List.mem_of_getElem? (i := 1) rfl), x_tb4 (List.mem_of_getElem? (i := 80) rfl), by decide +kernel, by decide⟩
theorem lb_UN_unpackTape : x_LB mUN_unpackTape 1 := ⟨x_tb1 (List.mem_of_getElem? (i := 12) rfl), x_tb4 (List.mem_of_getElem? (i := 84) rfl), by decide +kernel, by decide⟩
theorem lb_UN_readHead : x_LB mUN_readHead 1 := ⟨x_tb1 (List.mem_of_getElem? (i := 12) rfl), x_tb4 (List.mem_of_getElem? (i := 90) rfl), by decide +kernel, by decide⟩
theorem lb_UN_readShortHead : x_LB mUN_readShortHead 0 := ⟨x_tb1 (List.mem_of_getElem? (i := 12) rfl), x_tb4 (List.mem_of_getElem? (i := 94) rfl), by decide +kernel, by decide⟩
theorem lb_UN_readNumber : x_LB mUN_readNumber 1 := ⟨x_tb1 (List.mem_of_getElem? (i := 12) rfl), x_tb4 (List.mem_of_getElem? (i := 98) rfl), by decide +kernel, by decide⟩
theorem lb_UN_fail : x_LB mUN_fail 2 := ⟨x_tb1 (List.mem_of_getElem? (i := 12) rfl), x_tb4 (List.mem_of_getElem? (i := 102) rfl), by decide +kernel, by decide⟩
theorem lb_UN_readLongHead : x_LB mUN_readLongHead 0 := ⟨x_tb1 (List.mem_of_getElem? (i := 12) rfl), x_tb4 (List.mem_of_getElem? (i := 106) rfl), by decide +kernel, by decide⟩
theorem lb_UN_readByteThatIs : x_LB mUN_readByteThatIs 1 := ⟨x_tb1 (List.mem_of_getElem? (i := 12) rfl), x_tb4 (List.mem_of_getElem? (i := 110) rfl), by decide +kernel, by decide⟩
theorem lb_UN_skipBytes : x_LB mUN_skipBytes 1 := ⟨x_tb1 (List.mem_of_getElem? (i := 12) rfl), x_tb4 (List.mem_of_getElem? (i := 114) rfl), by decide +kernel, by decide⟩
theorem lb_UN_skipThroughZero : x_LB mUN_skipThroughZero 0 := ⟨x_tb1 (List.mem_of_getElem? (i := 12) rfl), x_tb4 (List.mem_of_getElem? (i := 118) rfl), by decide +kernel, by decide⟩
theorem lb_UN_readSumOfHead : x_LB mUN_readSumOfHead 1 := ⟨x_tb1 (List.mem_of_getElem? (i := 12) rfl), x_tb4 (List.mem_of_getElem? (i := 123) rfl), by decide +kernel, by decide⟩
theorem lb_UN_readBlocks : x_LB mUN_readBlocks 0 := ⟨x_tb1 (List.mem_of_getElem? (i := 12) rfl), x_tb4 (List.mem_of_getElem? (i := 129) rfl), by decide +kernel, by decide⟩
theorem lb_UN_readPlain : x_LB mUN_readPlain 0 := ⟨x_tb1 (List.mem_of_getElem? (i := 12) rfl), x_tb4 (List.mem_of_getElem? (i := 134) rfl), by decide +kernel, by decide⟩
theorem lb_UN_goToNextByte : x_LB mUN_goToNextByte 0 := ⟨x_tb1 (List.mem_of_getElem? (i := 12) rfl), x_tb4 (List.mem_of_getElem? (i := 138) rfl), by decide +kernel, by decide⟩
theorem lb_UN_readSymbols : x_LB mUN_readSymbols 2 := ⟨x_tb1 (List.mem_of_getElem? (i := 12) rfl), x_tb4 (List.mem_of_getElem? (i := 145) rfl), by decide +kernel, by decide⟩
theorem lb_UN_readSymbol : x_LB mUN_readSymbol 1 := ⟨x_tb1 (List.mem_of_getElem? (i := 12) rfl), x_tb4 (List.mem_of_getElem? (i := 149) rfl), by decide +kernel, by decide⟩
theorem lb_UN_readStretch : x_LB mUN_readStretch 3 := ⟨x_tb1 (List.mem_of_getElem? (i := 12) rfl), x_tb4 (List.mem_of_getElem? (i := 153) rfl), by decide +kernel, by decide⟩
theorem lb_UN_readCodes : x_LB mUN_readCodes 0 := ⟨x_tb1 (List.mem_of_getElem? (i := 12) rfl), x_tb4 (List.mem_of_getElem? (i := 163) rfl), by decide +kernel, by decide⟩
theorem lb_UN_readCodeOfLengths : x_LB mUN_readCodeOfLengths 0 := ⟨x_tb1 (List.mem_of_getElem? (i := 12) rfl), x_tb4 (List.mem_of_getElem? (i := 167) rfl), by decide +kernel, by decide⟩
theorem lb_AR_fill2 : x_LB mAR_fill2 4 := ⟨x_tb1 (List.mem_of_getElem? (i := 11) rfl), x_tb4 (List.mem_of_getElem? (i := 170) rfl), by decide +kernel, by decide⟩
theorem lb_AR_rangeCheck : x_LB mAR_rangeCheck 3 := ⟨x_tb1 (List.mem_of_getElem? (i := 11) rfl), x_tb4 (List.mem_of_getElem? (i := 173) rfl), by decide +kernel, by decide⟩
theorem lb_RC_isFull : x_LB mRC_isFull 0 := ⟨x_tb1 (List.mem_of_getElem? (i := 13) rfl), x_tb5 (List.mem_of_getElem? (i := 207) rfl), by decide +kernel, by decide⟩
theorem lb_UN_readLengths : x_LB mUN_readLengths 1 := ⟨x_tb1 (List.mem_of_getElem? (i := 12) rfl), x_tb5 (List.mem_of_getElem? (i := 212) rfl), by decide +kernel, by decide⟩
theorem lb_RC_servesDistances : x_LB mRC_servesDistances 0 := ⟨x_tb1 (List.mem_of_getElem? (i := 13) rfl), x_tb5 (List.mem_of_getElem? (i := 216) rfl), by decide +kernel, by decide⟩
theorem lb_UN_readTail : x_LB mUN_readTail 1 := ⟨x_tb1 (List.mem_of_getElem? (i := 12) rfl), x_tb5 (List.mem_of_getElem? (i := 222) rfl), by decide +kernel, by decide⟩
theorem lb_UN_readFourThatAre : x_LB mUN_readFourThatAre 3 := ⟨x_tb1 (List.mem_of_getElem? (i := 12) rfl), x_tb5 (List.mem_of_getElem? (i := 227) rfl), by decide +kernel, by decide⟩
theorem lb_RP_out : x_LB mRP_out 1 := ⟨x_tb1 (List.mem_of_getElem? (i := 1) rfl), x_tb5 (List.mem_of_getElem? (i := 234) rfl), by decide +kernel, by decide⟩
theorem lb_RP_turn : x_LB mRP_turn 0 := ⟨x_tb1 (List.mem_of_getElem? (i := 1) rfl), x_tb6 (List.mem_of_getElem? (i := 1) rfl), by decide +kernel, by decide⟩
theorem lb_RP_sum : x_LB mRP_sum 1 := ⟨x_tb1 (List.mem_of_getElem? (i := 1) rfl), x_tb6 (List.mem_of_getElem? (i := 9) rfl), by decide +kernel, by decide⟩
theorem lb_RP_block : x_LB mRP_block 2 := ⟨x_tb1 (List.mem_of_getElem? (i := 1) rfl), x_tb6 (List.mem_of_getElem? (i := 18) rfl), by decide +kernel, by decide⟩
theorem lb_MO_init : x_LB mMO_init 0 := ⟨x_tb1 (List.mem_of_getElem? (i := 14) rfl), x_tb6 (List.mem_of_getElem? (i := 23) rfl), by decide +kernel, by decide⟩
theorem lb_MO_thrown : x_LB mMO_thrown 0 := ⟨x_tb1 (List.mem_of_getElem? (i := 14) rfl), x_tb6 (List.mem_of_getElem? (i := 134) rfl), by decide +kernel, by decide⟩
theorem lb_MO_feed : x_LB mMO_feed 5 := ⟨x_tb1 (List.mem_of_getElem? (i := 14) rfl), x_tb6 (List.mem_of_getElem? (i := 138) rfl), by decide +kernel, by decide⟩
theorem lb_MO_type : x_LB mMO_type 1 := ⟨x_tb1 (List.mem_of_getElem? (i := 14) rfl), x_tb6 (List.mem_of_getElem? (i := 142) rfl), by decide +kernel, by decide⟩
theorem lb_MO_end : x_LB mMO_end 1 := ⟨x_tb1 (List.mem_of_getElem? (i := 14) rfl), x_tb6 (List.mem_of_getElem? (i := 146) rfl), by decide +kernel, by decide⟩
theorem lb_MO_again : x_LB mMO_again 2 := ⟨x_tb1 (List.mem_of_getElem? (i := 14) rfl), x_tb6 (List.mem_of_getElem? (i := 150) rfl), by decide +kernel, by decide⟩
theorem lb_MO_change : x_LB mMO_change 2 := ⟨x_tb1 (List.mem_of_getElem? (i := 14) rfl), x_tb6 (List.mem_of_getElem? (i := 154) rfl), by decide +kernel, by decide⟩
theorem lb_MO_sum : x_LB mMO_sum 1 := ⟨x_tb1 (List.mem_of_getElem? (i := 14) rfl), x_tb6 (List.mem_of_getElem? (i := 158) rfl), by decide +kernel, by decide⟩
theorem lb_MO_sumA : x_LB mMO_sumA 3 := ⟨x_tb1 (List.mem_of_getElem? (i := 14) rfl), x_tb6 (List.mem_of_getElem? (i := 161) rfl), by decide +kernel, by decide⟩
theorem lb_MO_sumB : x_LB mMO_sumB 3 := ⟨x_tb1 (List.mem_of_getElem? (i := 14) rfl), x_tb6 (List.mem_of_getElem? (i := 166) rfl), by decide +kernel, by decide⟩
theorem lb_MO_unpack : x_LB mMO_unpack 1 := ⟨x_tb1 (List.mem_of_getElem? (i := 14) rfl), x_tb6 (List.mem_of_getElem? (i := 174) rfl), by decide +kernel, by decide⟩
theorem lb_MO_clear : x_LB mMO_clear 0 := ⟨x_tb1 (List.mem_of_getElem? (i := 14) rfl), x_tb6 (List.mem_of_getElem? (i := 178) rfl), by decide +kernel, by decide⟩
theorem lb_MO_readBlocks : x_LB mMO_readBlocks 0 := ⟨x_tb1 (List.mem_of_getElem? (i := 14) rfl), x_tb6 (List.mem_of_getElem? (i := 182) rfl), by decide +kernel, by decide⟩
theorem lb_MO_bit : x_LB mMO_bit 0 := ⟨x_tb1 (List.mem_of_getElem? (i := 14) rfl), x_tb6 (List.mem_of_getElem? (i := 186) rfl), by decide +kernel, by decide⟩
theorem lb_MO_fail : x_LB mMO_fail 2 := ⟨x_tb1 (List.mem_of_getElem? (i := 14) rfl), x_tb6 (List.mem_of_getElem? (i := 190) rfl), by decide +kernel, by decide⟩
theorem lb_MO_number : x_LB mMO_number 1 := ⟨x_tb1 (List.mem_of_getElem? (i := 14) rfl), x_tb6 (List.mem_of_getElem? (i := 194) rfl), by decide +kernel, by decide⟩
theorem lb_MO_readPlain : x_LB mMO_readPlain 0 := ⟨x_tb1 (List.mem_of_getElem? (i := 14) rfl), x_tb6 (List.mem_of_getElem? (i := 198) rfl), by decide +kernel, by decide⟩
theorem lb_MO_toByte : x_LB mMO_toByte 0 := ⟨x_tb1 (List.mem_of_getElem? (i := 14) rfl), x_tb6 (List.mem_of_getElem? (i := 202) rfl), by decide +kernel, by decide⟩
theorem lb_MO_put : x_LB mMO_put 1 := ⟨x_tb1 (List.mem_of_getElem? (i := 14) rfl), x_tb6 (List.mem_of_getElem? (i := 207) rfl), by decide +kernel, by decide⟩
theorem lb_MO_plainLengths : x_LB mMO_plainLengths 0 := ⟨x_tb1 (List.mem_of_getElem? (i := 14) rfl), x_tb6 (List.mem_of_getElem? (i := 211) rfl), by decide +kernel, by decide⟩
theorem lb_MO_prepare : x_LB mMO_prepare 3 := ⟨x_tb1 (List.mem_of_getElem? (i := 14) rfl), x_tb6 (List.mem_of_getElem? (i := 215) rfl), by decide +kernel, by decide⟩
theorem lb_MO_readCodes : x_LB mMO_readCodes 0 := ⟨x_tb1 (List.mem_of_getElem? (i := 14) rfl), x_tb6 (List.mem_of_getElem? (i := 219) rfl), by decide +kernel, by decide⟩
theorem lb_MO_orderOf : x_LB mMO_orderOf 1 := ⟨x_tb1 (List.mem_of_getElem? (i := 14) rfl), x_tb6 (List.mem_of_getElem? (i := 222) rfl), by decide +kernel, by decide⟩
theorem lb_MO_readRow : x_LB mMO_readRow 1 := ⟨x_tb1 (List.mem_of_getElem? (i := 14) rfl), x_tb6 (List.mem_of_getElem? (i := 226) rfl), by decide +kernel, by decide⟩
theorem lb_MO_symbol : x_LB mMO_symbol 2 := ⟨x_tb1 (List.mem_of_getElem? (i := 14) rfl), x_tb6 (List.mem_of_getElem? (i := 230) rfl), by decide +kernel, by decide⟩
theorem lb_MO_readSymbols : x_LB mMO_readSymbols 1 := ⟨x_tb1 (List.mem_of_getElem? (i := 14) rfl), x_tb6 (List.mem_of_getElem? (i := 234) rfl), by decide +kernel, by decide⟩
theorem lb_MO_leastLength : x_LB mMO_leastLength 1 := ⟨x_tb1 (List.mem_of_getElem? (i := 14) rfl), x_tb6 (List.mem_of_getElem? (i := 237) rfl), by decide +kernel, by decide⟩
theorem lb_MO_lengthBits : x_LB mMO_lengthBits 1 := ⟨x_tb1 (List.mem_of_getElem? (i := 14) rfl), x_tb7 (List.mem_of_getElem? (i := 0) rfl), by decide +kernel, by decide⟩
theorem lb_MO_distance : x_LB mMO_distance 1 := ⟨x_tb1 (List.mem_of_getElem? (i := 14) rfl), x_tb7 (List.mem_of_getElem? (i := 4) rfl), by decide +kernel, by decide⟩
theorem lb_MO_leastDistance : x_LB mMO_leastDistance 1 := ⟨x_tb1 (List.mem_of_getElem? (i := 14) rfl), x_tb7 (List.mem_of_getElem? (i := 7) rfl), by decide +kernel, by decide⟩
theorem lb_MO_distanceBits : x_LB mMO_distanceBits 1 := ⟨x_tb1 (List.mem_of_getElem? (i := 14) rfl), x_tb7 (List.mem_of_getElem? (i := 10) rfl), by decide +kernel, by decide⟩
theorem lb_MO_note : x_LB mMO_note 4 := ⟨x_tb1 (List.mem_of_getElem? (i := 14) rfl), x_tb7 (List.mem_of_getElem? (i := 14) rfl), by decide +kernel, by decide⟩
theorem lb_MO_wantEnd : x_LB mMO_wantEnd 0 := ⟨x_tb1 (List.mem_of_getElem? (i := 14) rfl), x_tb7 (List.mem_of_getElem? (i := 18) rfl), by decide +kernel, by decide⟩
theorem lb_MO_readShort : x_LB mMO_readShort 0 := ⟨x_tb1 (List.mem_of_getElem? (i := 14) rfl), x_tb7 (List.mem_of_getElem? (i := 22) rfl), by decide +kernel, by decide⟩
theorem lb_MO_wrapped : x_LB mMO_wrapped 0 := ⟨x_tb1 (List.mem_of_getElem? (i := 14) rfl), x_tb7 (List.mem_of_getElem? (i := 26) rfl), by decide +kernel, by decide⟩
theorem lb_MO_readLong : x_LB mMO_readLong 0 := ⟨x_tb1 (List.mem_of_getElem? (i := 14) rfl), x_tb7 (List.mem_of_getElem? (i := 31) rfl), by decide +kernel, by decide⟩
theorem lb_MO_readHead : x_LB mMO_readHead 0 := ⟨x_tb1 (List.mem_of_getElem? (i := 14) rfl), x_tb7 (List.mem_of_getElem? (i := 35) rfl), by decide +kernel, by decide⟩
theorem lb_MO_want : x_LB mMO_want 1 := ⟨x_tb1 (List.mem_of_getElem? (i := 14) rfl), x_tb7 (List.mem_of_getElem? (i := 39) rfl), by decide +kernel, by decide⟩
theorem lb_MO_skip : x_LB mMO_skip 1 := ⟨x_tb1 (List.mem_of_getElem? (i := 14) rfl), x_tb7 (List.mem_of_getElem? (i := 43) rfl), by decide +kernel, by decide⟩
theorem lb_MO_skipText : x_LB mMO_skipText 0 := ⟨x_tb1 (List.mem_of_getElem? (i := 14) rfl), x_tb7 (List.mem_of_getElem? (i := 47) rfl), by decide +kernel, by decide⟩
theorem lb_MO_four : x_LB mMO_four 0 := ⟨x_tb1 (List.mem_of_getElem? (i := 14) rfl), x_tb7 (List.mem_of_getElem? (i := 52) rfl), by decide +kernel, by decide⟩
theorem lb_MO_pack : x_LB mMO_pack 1 := ⟨x_tb1 (List.mem_of_getElem? (i := 14) rfl), x_tb7 (List.mem_of_getElem? (i := 56) rfl), by decide +kernel, by decide⟩
theorem lb_MO_putNumber : x_LB mMO_putNumber 2 := ⟨x_tb1 (List.mem_of_getElem? (i := 14) rfl), x_tb7 (List.mem_of_getElem? (i := 60) rfl), by decide +kernel, by decide⟩
theorem lb_MO_putBit : x_LB mMO_putBit 1 := ⟨x_tb1 (List.mem_of_getElem? (i := 14) rfl), x_tb7 (List.mem_of_getElem? (i := 64) rfl), by decide +kernel, by decide⟩
theorem lb_MO_putBlocks : x_LB mMO_putBlocks 0 := ⟨x_tb1 (List.mem_of_getElem? (i := 14) rfl), x_tb7 (List.mem_of_getElem? (i := 68) rfl), by decide +kernel, by decide⟩
theorem lb_MO_stretchOf : x_LB mMO_stretchOf 1 := ⟨x_tb1 (List.mem_of_getElem? (i := 14) rfl), x_tb7 (List.mem_of_getElem? (i := 72) rfl), by decide +kernel, by decide⟩
theorem lb_MO_same : x_LB mMO_same 2 := ⟨x_tb1 (List.mem_of_getElem? (i := 14) rfl), x_tb7 (List.mem_of_getElem? (i := 76) rfl), by decide +kernel, by decide⟩
theorem lb_MO_putBlock : x_LB mMO_putBlock 3 := ⟨x_tb1 (List.mem_of_getElem? (i := 14) rfl), x_tb7 (List.mem_of_getElem? (i := 80) rfl), by decide +kernel, by decide⟩
theorem lb_MO_pieceBits : x_LB mMO_pieceBits 0 := ⟨x_tb1 (List.mem_of_getElem? (i := 14) rfl), x_tb7 (List.mem_of_getElem? (i := 84) rfl), by decide +kernel, by decide⟩
theorem lb_MO_lengthSymbol : x_LB mMO_lengthSymbol 1 := ⟨x_tb1 (List.mem_of_getElem? (i := 14) rfl), x_tb7 (List.mem_of_getElem? (i := 87) rfl), by decide +kernel, by decide⟩
theorem lb_MO_distanceSymbol : x_LB mMO_distanceSymbol 1 := ⟨x_tb1 (List.mem_of_getElem? (i := 14) rfl), x_tb7 (List.mem_of_getElem? (i := 90) rfl), by decide +kernel, by decide⟩
theorem lb_MO_plan : x_LB mMO_plan 0 := ⟨x_tb1 (List.mem_of_getElem? (i := 14) rfl), x_tb7 (List.mem_of_getElem? (i := 94) rfl), by decide +kernel, by decide⟩
theorem lb_MO_weigh : x_LB mMO_weigh 0 := ⟨x_tb1 (List.mem_of_getElem? (i := 14) rfl), x_tb7 (List.mem_of_getElem? (i := 98) rfl), by decide +kernel, by decide⟩
theorem lb_MO_byWeights : x_LB mMO_byWeights 3 := ⟨x_tb1 (List.mem_of_getElem? (i := 14) rfl), x_tb7 (List.mem_of_getElem? (i := 102) rfl), by decide +kernel, by decide⟩
theorem lb_MO_isBefore : x_LB mMO_isBefore 4 := ⟨x_tb1 (List.mem_of_getElem? (i := 14) rfl), x_tb7 (List.mem_of_getElem? (i := 105) rfl), by decide +kernel, by decide⟩
theorem lb_MO_layRows : x_LB mMO_layRows 3 := ⟨x_tb1 (List.mem_of_getElem? (i := 14) rfl), x_tb7 (List.mem_of_getElem? (i := 109) rfl), by decide +kernel, by decide⟩
theorem lb_MO_lastOf : x_LB mMO_lastOf 3 := ⟨x_tb1 (List.mem_of_getElem? (i := 14) rfl), x_tb7 (List.mem_of_getElem? (i := 112) rfl), by decide +kernel, by decide⟩
theorem lb_MO_tellRow : x_LB mMO_tellRow 1 := ⟨x_tb1 (List.mem_of_getElem? (i := 14) rfl), x_tb7 (List.mem_of_getElem? (i := 116) rfl), by decide +kernel, by decide⟩
theorem lb_MO_run : x_LB mMO_run 2 := ⟨x_tb1 (List.mem_of_getElem? (i := 14) rfl), x_tb7 (List.mem_of_getElem? (i := 120) rfl), by decide +kernel, by decide⟩
theorem lb_MO_tell : x_LB mMO_tell 2 := ⟨x_tb1 (List.mem_of_getElem? (i := 14) rfl), x_tb7 (List.mem_of_getElem? (i := 124) rfl), by decide +kernel, by decide⟩
theorem lb_MO_toldBits : x_LB mMO_toldBits 1 := ⟨x_tb1 (List.mem_of_getElem? (i := 14) rfl), x_tb7 (List.mem_of_getElem? (i := 127) rfl), by decide +kernel, by decide⟩
theorem lb_MO_putPlain : x_LB mMO_putPlain 2 := ⟨x_tb1 (List.mem_of_getElem? (i := 14) rfl), x_tb7 (List.mem_of_getElem? (i := 131) rfl), by decide +kernel, by decide⟩
theorem lb_MO_pad : x_LB mMO_pad 0 := ⟨x_tb1 (List.mem_of_getElem? (i := 14) rfl), x_tb7 (List.mem_of_getElem? (i := 135) rfl), by decide +kernel, by decide⟩
theorem lb_MO_putPieces : x_LB mMO_putPieces 0 := ⟨x_tb1 (List.mem_of_getElem? (i := 14) rfl), x_tb7 (List.mem_of_getElem? (i := 139) rfl), by decide +kernel, by decide⟩
theorem lb_MO_makeCodes : x_LB mMO_makeCodes 2 := ⟨x_tb1 (List.mem_of_getElem? (i := 14) rfl), x_tb7 (List.mem_of_getElem? (i := 143) rfl), by decide +kernel, by decide⟩
theorem lb_MO_putCode : x_LB mMO_putCode 1 := ⟨x_tb1 (List.mem_of_getElem? (i := 14) rfl), x_tb7 (List.mem_of_getElem? (i := 147) rfl), by decide +kernel, by decide⟩
theorem lb_MO_putPlanned : x_LB mMO_putPlanned 0 := ⟨x_tb1 (List.mem_of_getElem? (i := 14) rfl), x_tb7 (List.mem_of_getElem? (i := 151) rfl), by decide +kernel, by decide⟩
theorem lb_MO_putFour : x_LB mMO_putFour 1 := ⟨x_tb1 (List.mem_of_getElem? (i := 14) rfl), x_tb7 (List.mem_of_getElem? (i := 155) rfl), by decide +kernel, by decide⟩
theorem lb_MO_fault : x_LB mMO_fault 0 := ⟨x_tb1 (List.mem_of_getElem? (i := 14) rfl), x_tb7 (List.mem_of_getElem? (i := 159) rfl), by decide +kernel, by decide⟩
theorem lb_MO_place : x_LB mMO_place 0 := ⟨x_tb1 (List.mem_of_getElem? (i := 14) rfl), x_tb7 (List.mem_of_getElem? (i := 163) rfl), by decide +kernel, by decide⟩
theorem lb_MO_size : x_LB mMO_size 0 := ⟨x_tb1 (List.mem_of_getElem? (i := 14) rfl), x_tb7 (List.mem_of_getElem? (i := 167) rfl), by decide +kernel, by decide⟩
theorem lb_MO_out : x_LB mMO_out 1 := ⟨x_tb1 (List.mem_of_getElem? (i := 14) rfl), x_tb7 (List.mem_of_getElem? (i := 171) rfl), by decide +kernel, by decide⟩
theorem lb_MO_turn : x_LB mMO_turn 0 := ⟨x_tb1 (List.mem_of_getElem? (i := 14) rfl), x_tb7 (List.mem_of_getElem? (i := 175) rfl), by decide +kernel, by decide⟩
theorem lb_MO_blocks : x_LB mMO_blocks 0 := ⟨x_tb1 (List.mem_of_getElem? (i := 14) rfl), x_tb7 (List.mem_of_getElem? (i := 179) rfl), by decide +kernel, by decide⟩
theorem lb_MO_block : x_LB mMO_block 2 := ⟨x_tb1 (List.mem_of_getElem? (i := 14) rfl), x_tb7 (List.mem_of_getElem? (i := 183) rfl), by decide +kernel, by decide⟩
theorem lb_MO_stretches : x_LB mMO_stretches 0 := ⟨x_tb1 (List.mem_of_getElem? (i := 14) rfl), x_tb7 (List.mem_of_getElem? (i := 187) rfl), by decide +kernel, by decide⟩
theorem lk_16_51 : x_LI 16 51 mRP_init 0 := ⟨x_tb1 (List.mem_of_getElem? (i := 34) rfl), x_tb1 (List.mem_of_getElem? (i := 35) rfl), rfl, rfl, lb_RP_init⟩
theorem lo_0_3 : Cond.methodLink (x_cn 0) 3 Lib.objectInit ∈ x_tw := x_tb1 (List.mem_of_getElem? (i := 37) rfl)
theorem lk_0_12 : x_LI 0 12 mRO_init 1 := ⟨x_tb1 (List.mem_of_getElem? (i := 43) rfl), x_tb1 (List.mem_of_getElem? (i := 44) rfl), rfl, rfl, lb_RO_init⟩
theorem lo_7_1 : Cond.methodLink (x_cn 7) 1 Lib.objectInit ∈ x_tw := x_tb1 (List.mem_of_getElem? (i := 46) rfl)
theorem lk_0_25 : x_LIN 0 25 mRE_init 0 := ⟨x_tb1 (List.mem_of_getElem? (i := 66) rfl), x_tb1 (List.mem_of_getElem? (i := 67) rfl), rfl, rfl, lb_RE_init⟩
theorem lo_6_3 : Cond.methodLink (x_cn 6) 3 Lib.objectInit ∈ x_tw := x_tb1 (List.mem_of_getElem? (i := 69) rfl)
theorem lk_0_32 : x_LI 0 32 mSU_init 0 := ⟨x_tb1 (List.mem_of_getElem? (i := 98) rfl), x_tb1 (List.mem_of_getElem? (i := 99) rfl), rfl, rfl, lb_SU_init⟩
theorem lo_8_1 : Cond.methodLink (x_cn 8) 1 Lib.objectInit ∈ x_tw := x_tb1 (List.mem_of_getElem? (i := 101) rfl)
theorem lk_0_39 : x_LI 0 39 mPK_init 4 := ⟨x_tb1 (List.mem_of_getElem? (i := 109) rfl), x_tb1 (List.mem_of_getElem? (i := 110) rfl), rfl, rfl, lb_PK_init⟩
theorem lo_4_3 : Cond.methodLink (x_cn 4) 3 Lib.objectInit ∈ x_tw := x_tb1 (List.mem_of_getElem? (i := 112) rfl)
theorem lk_4_11 : x_LI 4 11 mWC_init 1 := ⟨x_tb1 (List.mem_of_getElem? (i := 115) rfl), x_tb1 (List.mem_of_getElem? (i := 116) rfl), rfl, rfl, lb_WC_init⟩
theorem lo_11_3 : Cond.methodLink (x_cn 11) 3 Lib.objectInit ∈ x_tw := x_tb1 (List.mem_of_getElem? (i := 118) rfl)
theorem lk_4_25 : x_LIN 4 25 mMC_init 0 := ⟨x_tb1 (List.mem_of_getElem? (i := 135) rfl), x_tb1 (List.mem_of_getElem? (i := 136) rfl), rfl, rfl, lb_MC_init⟩
theorem lo_3_3 : Cond.methodLink (x_cn 3) 3 Lib.objectInit ∈ x_tw := x_tb1 (List.mem_of_getElem? (i := 138) rfl)
theorem lk_3_11 : x_LI 3 11 mWC_init 1 := ⟨x_tb1 (List.mem_of_getElem? (i := 140) rfl), x_tb1 (List.mem_of_getElem? (i := 116) rfl), rfl, rfl, lb_WC_init⟩
theorem lk_3_28 : x_LIN 3 28 mWE_init 0 := ⟨x_tb1 (List.mem_of_getElem? (i := 143) rfl), x_tb1 (List.mem_of_getElem? (i := 144) rfl), rfl, rfl, lb_WE_init⟩
theorem lo_10_3 : Cond.methodLink (x_cn 10) 3 Lib.objectInit ∈ x_tw := x_tb1 (List.mem_of_getElem? (i := 146) rfl)
theorem lk_4_57 : x_LI 4 57 mFI_init 1 := ⟨x_tb1 (List.mem_of_getElem? (i := 208) rfl), x_tb1 (List.mem_of_getElem? (i := 209) rfl), rfl, rfl, lb_FI_init⟩
theorem lo_2_5 : Cond.methodLink (x_cn 2) 5 Lib.objectInit ∈ x_tw := x_tb1 (List.mem_of_getElem? (i := 211) rfl)
theorem lk_4_66 : x_LI 4 66 mBW_init 1 := ⟨x_tb1 (List.mem_of_getElem? (i := 239) rfl), x_tb2 (List.mem_of_getElem? (i := 0) rfl), rfl, rfl, lb_BW_init⟩
theorem lo_1_1 : Cond.methodLink (x_cn 1) 1 Lib.objectInit ∈ x_tw := x_tb2 (List.mem_of_getElem? (i := 2) rfl)
theorem lk_4_74 : x_LSN 4 74 mRP_fixedLength 1 := ⟨x_tb2 (List.mem_of_getElem? (i := 13) rfl), x_tb2 (List.mem_of_getElem? (i := 14) rfl), lb_RP_fixedLength⟩
theorem lk_4_78 : x_LS 4 78 mAR_fill 2 := ⟨x_tb2 (List.mem_of_getElem? (i := 16) rfl), x_tb2 (List.mem_of_getElem? (i := 17) rfl), lb_AR_fill⟩
theorem lk_4_84 : x_LV 4 84 mWC_makeWords 0 := ⟨x_tb2 (List.mem_of_getElem? (i := 19) rfl), x_tb2 (List.mem_of_getElem? (i := 20) rfl), x_tb2 (List.mem_of_getElem? (i := 21) rfl), lb_WC_makeWords⟩
theorem lk_11_21 : x_LS 11 21 mAR_fill 2 := ⟨x_tb2 (List.mem_of_getElem? (i := 23) rfl), x_tb2 (List.mem_of_getElem? (i := 17) rfl), lb_AR_fill⟩
theorem lk_11_27 : x_LS 11 27 mWC_turnedRound 2 := ⟨x_tb2 (List.mem_of_getElem? (i := 24) rfl), x_tb2 (List.mem_of_getElem? (i := 25) rfl), lb_WC_turnedRound⟩
theorem lk_0_48 : x_LI 0 48 mUN_init 4 := ⟨x_tb2 (List.mem_of_getElem? (i := 78) rfl), x_tb2 (List.mem_of_getElem? (i := 79) rfl), rfl, rfl, lb_UN_init⟩
theorem lo_9_3 : Cond.methodLink (x_cn 9) 3 Lib.objectInit ∈ x_tw := x_tb2 (List.mem_of_getElem? (i := 81) rfl)
theorem lk_9_11 : x_LIN 9 11 mRC_init 0 := ⟨x_tb2 (List.mem_of_getElem? (i := 84) rfl), x_tb2 (List.mem_of_getElem? (i := 85) rfl), rfl, rfl, lb_RC_init⟩
theorem lo_5_3 : Cond.methodLink (x_cn 5) 3 Lib.objectInit ∈ x_tw := x_tb2 (List.mem_of_getElem? (i := 87) rfl)
theorem lk_9_49 : x_LSN 9 49 mRP_fixedLength 1 := ⟨x_tb2 (List.mem_of_getElem? (i := 104) rfl), x_tb2 (List.mem_of_getElem? (i := 14) rfl), lb_RP_fixedLength⟩
theorem lk_9_53 : x_LV 9 53 mRC_make 3 := ⟨x_tb2 (List.mem_of_getElem? (i := 105) rfl), x_tb2 (List.mem_of_getElem? (i := 106) rfl), x_tb2 (List.mem_of_getElem? (i := 107) rfl), lb_RC_make⟩
theorem lk_5_21 : x_LS 5 21 mAR_fill 2 := ⟨x_tb2 (List.mem_of_getElem? (i := 109) rfl), x_tb2 (List.mem_of_getElem? (i := 17) rfl), lb_AR_fill⟩
theorem lk_9_57 : x_LS 9 57 mAR_fill 2 := ⟨x_tb2 (List.mem_of_getElem? (i := 110) rfl), x_tb2 (List.mem_of_getElem? (i := 17) rfl), lb_AR_fill⟩
theorem lk_16_82 : x_LV 16 82 mRP_fault 0 := ⟨x_tb2 (List.mem_of_getElem? (i := 170) rfl), x_tb2 (List.mem_of_getElem? (i := 171) rfl), x_tb2 (List.mem_of_getElem? (i := 172) rfl), lb_RP_fault⟩
theorem lk_16_86 : x_LV 16 86 mRP_place 0 := ⟨x_tb2 (List.mem_of_getElem? (i := 174) rfl), x_tb2 (List.mem_of_getElem? (i := 175) rfl), x_tb2 (List.mem_of_getElem? (i := 176) rfl), lb_RP_place⟩
theorem lk_16_90 : x_LV 16 90 mRP_size 0 := ⟨x_tb2 (List.mem_of_getElem? (i := 178) rfl), x_tb2 (List.mem_of_getElem? (i := 179) rfl), x_tb2 (List.mem_of_getElem? (i := 180) rfl), lb_RP_size⟩
theorem lk_16_104 : x_LV 16 104 mRP_blocks 0 := ⟨x_tb2 (List.mem_of_getElem? (i := 182) rfl), x_tb2 (List.mem_of_getElem? (i := 183) rfl), x_tb2 (List.mem_of_getElem? (i := 184) rfl), lb_RP_blocks⟩
theorem lk_16_111 : x_LV 16 111 mRP_stretches 0 := ⟨x_tb2 (List.mem_of_getElem? (i := 186) rfl), x_tb2 (List.mem_of_getElem? (i := 187) rfl), x_tb2 (List.mem_of_getElem? (i := 188) rfl), lb_RP_stretches⟩
-- RowPackerLaw 55 -> ('RowPackerLaw', 'feed', '(LRowPacker;IIIII[J)I')
theorem lk_16_7 : x_LV 16 7 mRP_feed 5 := ⟨x_tb2 (List.mem_of_getElem? (i := 194) rfl), x_tb2 (List.mem_of_getElem? (i := 195) rfl), x_tb2 (List.mem_of_getElem? (i := 196) rfl), lb_RP_feed⟩
-- RowPacker 59 -> ('java/lang/IllegalStateException', '<init>', '()V')
-- java/lang/IllegalStateException 1 -> ('java/lang/RuntimeException', '<init>', '()V')
theorem lk_0_60 : x_LV 0 60 mRO_addFour 1 := ⟨x_tb3 (List.mem_of_getElem? (i := 23) rfl), x_tb3 (List.mem_of_getElem? (i := 24) rfl), x_tb3 (List.mem_of_getElem? (i := 25) rfl), lb_RO_addFour⟩
theorem lk_7_17 : x_LV 7 17 mRO_add 1 := ⟨x_tb3 (List.mem_of_getElem? (i := 27) rfl), x_tb3 (List.mem_of_getElem? (i := 28) rfl), x_tb3 (List.mem_of_getElem? (i := 29) rfl), lb_RO_add⟩
-- RowPackerLaw 64 -> ('RowPackerLaw', 'end', '(LRowPacker;I)I')
theorem lk_16_15 : x_LV 16 15 mRP_end 1 := ⟨x_tb3 (List.mem_of_getElem? (i := 35) rfl), x_tb3 (List.mem_of_getElem? (i := 36) rfl), x_tb3 (List.mem_of_getElem? (i := 37) rfl), lb_RP_end⟩
-- RowPacker 65 -> ('java/lang/IllegalArgumentException', '<init>', '()V')
-- java/lang/IllegalArgumentException 1 -> ('java/lang/RuntimeException', '<init>', '()V')
-- RowPackerLaw 68 -> ('RowPackerLaw', 'again', '(LRowPacker;II[J)I')
theorem lk_16_21 : x_LV 16 21 mRP_again 2 := ⟨x_tb3 (List.mem_of_getElem? (i := 57) rfl), x_tb3 (List.mem_of_getElem? (i := 58) rfl), x_tb3 (List.mem_of_getElem? (i := 59) rfl), lb_RP_again⟩
theorem lk_0_66 : x_LV 0 66 mRO_repeat 2 := ⟨x_tb3 (List.mem_of_getElem? (i := 61) rfl), x_tb3 (List.mem_of_getElem? (i := 62) rfl), x_tb3 (List.mem_of_getElem? (i := 63) rfl), lb_RO_repeat⟩
-- RowPackerLaw 72 -> ('RowPackerLaw', 'change', '(LRowPacker;II[J)I')
theorem lk_16_25 : x_LV 16 25 mRP_change 2 := ⟨x_tb3 (List.mem_of_getElem? (i := 69) rfl), x_tb3 (List.mem_of_getElem? (i := 70) rfl), x_tb3 (List.mem_of_getElem? (i := 71) rfl), lb_RP_change⟩
-- RowPacker 72 -> ('java/lang/IndexOutOfBoundsException', '<init>', '()V')
-- java/lang/IndexOutOfBoundsException 1 -> ('java/lang/RuntimeException', '<init>', '()V')
theorem lk_0_77 : x_LV 0 77 mRO_byteAt 1 := ⟨x_tb3 (List.mem_of_getElem? (i := 88) rfl), x_tb3 (List.mem_of_getElem? (i := 89) rfl), x_tb3 (List.mem_of_getElem? (i := 90) rfl), lb_RO_byteAt⟩
-- RowPackerLaw 75 -> ('RowPackerLaw', 'pack', '(LRowPacker;I[J)I')
theorem lk_16_30 : x_LV 16 30 mRP_pack 1 := ⟨x_tb3 (List.mem_of_getElem? (i := 95) rfl), x_tb3 (List.mem_of_getElem? (i := 96) rfl), x_tb3 (List.mem_of_getElem? (i := 97) rfl), lb_RP_pack⟩
theorem lk_0_81 : x_LV 0 81 mPK_packTape 1 := ⟨x_tb3 (List.mem_of_getElem? (i := 99) rfl), x_tb3 (List.mem_of_getElem? (i := 100) rfl), x_tb3 (List.mem_of_getElem? (i := 101) rfl), lb_PK_packTape⟩
theorem lk_4_87 : x_LV 4 87 mRE_clear 0 := ⟨x_tb3 (List.mem_of_getElem? (i := 103) rfl), x_tb3 (List.mem_of_getElem? (i := 104) rfl), x_tb3 (List.mem_of_getElem? (i := 105) rfl), lb_RE_clear⟩
theorem lk_4_92 : x_LV 4 92 mBW_restart 0 := ⟨x_tb3 (List.mem_of_getElem? (i := 107) rfl), x_tb3 (List.mem_of_getElem? (i := 108) rfl), x_tb3 (List.mem_of_getElem? (i := 109) rfl), lb_BW_restart⟩
theorem lk_4_95 : x_LV 4 95 mFI_restart 0 := ⟨x_tb3 (List.mem_of_getElem? (i := 111) rfl), x_tb3 (List.mem_of_getElem? (i := 112) rfl), x_tb3 (List.mem_of_getElem? (i := 113) rfl), lb_FI_restart⟩
theorem lk_2_23 : x_LS 2 23 mAR_fill 2 := ⟨x_tb3 (List.mem_of_getElem? (i := 115) rfl), x_tb2 (List.mem_of_getElem? (i := 17) rfl), lb_AR_fill⟩
theorem lk_4_96 : x_LV 4 96 mPK_writeHead 1 := ⟨x_tb3 (List.mem_of_getElem? (i := 116) rfl), x_tb3 (List.mem_of_getElem? (i := 118) rfl), x_sel (q := (⟨"RowPacker$Packer", "writeHead", "(I)V"⟩, _)) (List.mem_append_left _ (List.mem_of_getElem? (i := 1) rfl)), lb_PK_writeHead⟩
theorem lk_4_129 : x_LV 4 129 mBW_writeNumber 2 := ⟨x_tb3 (List.mem_of_getElem? (i := 120) rfl), x_tb3 (List.mem_of_getElem? (i := 121) rfl), x_tb3 (List.mem_of_getElem? (i := 122) rfl), lb_BW_writeNumber⟩
theorem lk_1_25 : x_LV 1 25 mRO_add 1 := ⟨x_tb3 (List.mem_of_getElem? (i := 124) rfl), x_tb3 (List.mem_of_getElem? (i := 28) rfl), x_tb3 (List.mem_of_getElem? (i := 29) rfl), lb_RO_add⟩
theorem lk_4_104 : x_LV 4 104 mPK_takePieces 0 := ⟨x_tb3 (List.mem_of_getElem? (i := 126) rfl), x_tb3 (List.mem_of_getElem? (i := 128) rfl), x_sel (q := (⟨"RowPacker$Packer", "takePieces", "()V"⟩, _)) (List.mem_append_left _ (List.mem_of_getElem? (i := 2) rfl)), lb_PK_takePieces⟩
theorem lk_4_152 : x_LV 4 152 mPK_takePiece 0 := ⟨x_tb3 (List.mem_of_getElem? (i := 130) rfl), x_tb3 (List.mem_of_getElem? (i := 132) rfl), x_sel (q := (⟨"RowPacker$Packer", "takePiece", "()V"⟩, _)) (List.mem_append_left _ (List.mem_of_getElem? (i := 3) rfl)), lb_PK_takePiece⟩
theorem lk_4_155 : x_LV 4 155 mFI_find 1 := ⟨x_tb3 (List.mem_of_getElem? (i := 134) rfl), x_tb3 (List.mem_of_getElem? (i := 135) rfl), x_tb3 (List.mem_of_getElem? (i := 136) rfl), lb_FI_find⟩
theorem lk_2_39 : x_LV 2 39 mFI_enterPlacesBefore 1 := ⟨x_tb3 (List.mem_of_getElem? (i := 138) rfl), x_tb3 (List.mem_of_getElem? (i := 140) rfl), x_sel (q := (⟨"RowPacker$Finder", "enterPlacesBefore", "(I)V"⟩, _)) (List.mem_append_left _ (List.mem_of_getElem? (i := 4) rfl)), lb_FI_enterPlacesBefore⟩
theorem lk_2_58 : x_LV 2 58 mFI_keyAt 1 := ⟨x_tb3 (List.mem_of_getElem? (i := 142) rfl), x_tb3 (List.mem_of_getElem? (i := 144) rfl), x_sel (q := (⟨"RowPacker$Finder", "keyAt", "(I)I"⟩, _)) (List.mem_append_left _ (List.mem_of_getElem? (i := 5) rfl)), lb_FI_keyAt⟩
theorem lk_2_48 : x_LS 2 48 mMA_min 2 := ⟨x_tb3 (List.mem_of_getElem? (i := 147) rfl), x_tb3 (List.mem_of_getElem? (i := 148) rfl), lb_MA_min⟩
theorem lk_2_54 : x_LV 2 54 mFI_search 2 := ⟨x_tb3 (List.mem_of_getElem? (i := 150) rfl), x_tb3 (List.mem_of_getElem? (i := 152) rfl), x_sel (q := (⟨"RowPacker$Finder", "search", "(II)V"⟩, _)) (List.mem_append_left _ (List.mem_of_getElem? (i := 6) rfl)), lb_FI_search⟩
theorem lk_2_67 : x_LS 2 67 mMA_max 2 := ⟨x_tb3 (List.mem_of_getElem? (i := 154) rfl), x_tb3 (List.mem_of_getElem? (i := 155) rfl), lb_MA_max⟩
theorem lk_2_70 : x_LV 2 70 mFI_sameBytes 3 := ⟨x_tb3 (List.mem_of_getElem? (i := 157) rfl), x_tb3 (List.mem_of_getElem? (i := 159) rfl), x_sel (q := (⟨"RowPacker$Finder", "sameBytes", "(III)I"⟩, _)) (List.mem_append_left _ (List.mem_of_getElem? (i := 7) rfl)), lb_FI_sameBytes⟩
theorem lk_4_164 : x_LV 4 164 mPK_takeStretch 2 := ⟨x_tb3 (List.mem_of_getElem? (i := 161) rfl), x_tb3 (List.mem_of_getElem? (i := 163) rfl), x_sel (q := (⟨"RowPacker$Packer", "takeStretch", "(II)V"⟩, _)) (List.mem_append_left _ (List.mem_of_getElem? (i := 8) rfl)), lb_PK_takeStretch⟩
theorem lk_4_173 : x_LSN 4 173 mRP_lengthSymbol 1 := ⟨x_tb3 (List.mem_of_getElem? (i := 165) rfl), x_tb3 (List.mem_of_getElem? (i := 166) rfl), lb_RP_lengthSymbol⟩
theorem lk_0_119 : x_LS 0 119 mRP_bitsAbove 2 := ⟨x_tb3 (List.mem_of_getElem? (i := 168) rfl), x_tb3 (List.mem_of_getElem? (i := 169) rfl), lb_RP_bitsAbove⟩
theorem lk_4_176 : x_LSN 4 176 mRP_distanceSymbol 1 := ⟨x_tb3 (List.mem_of_getElem? (i := 171) rfl), x_tb3 (List.mem_of_getElem? (i := 172) rfl), lb_RP_distanceSymbol⟩
theorem lk_4_179 : x_LSN 4 179 mRP_lengthBits 1 := ⟨x_tb3 (List.mem_of_getElem? (i := 174) rfl), x_tb3 (List.mem_of_getElem? (i := 175) rfl), lb_RP_lengthBits⟩
theorem lk_4_182 : x_LSN 4 182 mRP_distanceBits 1 := ⟨x_tb3 (List.mem_of_getElem? (i := 177) rfl), x_tb3 (List.mem_of_getElem? (i := 178) rfl), lb_RP_distanceBits⟩
theorem lk_4_167 : x_LV 4 167 mPK_takeByte 0 := ⟨x_tb3 (List.mem_of_getElem? (i := 180) rfl), x_tb3 (List.mem_of_getElem? (i := 182) rfl), x_sel (q := (⟨"RowPacker$Packer", "takeByte", "()V"⟩, _)) (List.mem_append_left _ (List.mem_of_getElem? (i := 9) rfl)), lb_PK_takeByte⟩
theorem lk_4_170 : x_LV 4 170 mRO_byteAt 1 := ⟨x_tb3 (List.mem_of_getElem? (i := 184) rfl), x_tb3 (List.mem_of_getElem? (i := 89) rfl), x_tb3 (List.mem_of_getElem? (i := 90) rfl), lb_RO_byteAt⟩
theorem lk_4_110 : x_LV 4 110 mMC_make 2 := ⟨x_tb3 (List.mem_of_getElem? (i := 185) rfl), x_tb3 (List.mem_of_getElem? (i := 186) rfl), x_tb3 (List.mem_of_getElem? (i := 187) rfl), lb_MC_make⟩
theorem lk_3_48 : x_LV 3 48 mWE_makeLengths 3 := ⟨x_tb3 (List.mem_of_getElem? (i := 189) rfl), x_tb3 (List.mem_of_getElem? (i := 190) rfl), x_tb3 (List.mem_of_getElem? (i := 191) rfl), lb_WE_makeLengths⟩
theorem lk_10_28 : x_LV 10 28 mWE_sortSymbols 1 := ⟨x_tb3 (List.mem_of_getElem? (i := 193) rfl), x_tb3 (List.mem_of_getElem? (i := 195) rfl), x_sel (q := (⟨"RowPacker$Weigher", "sortSymbols", "([I)V"⟩, _)) (List.mem_append_left _ (List.mem_of_getElem? (i := 10) rfl)), lb_WE_sortSymbols⟩
theorem lk_10_32 : x_LS 10 32 mAR_fill 2 := ⟨x_tb3 (List.mem_of_getElem? (i := 197) rfl), x_tb2 (List.mem_of_getElem? (i := 17) rfl), lb_AR_fill⟩
theorem lk_10_42 : x_LV 10 42 mWE_makeRow 2 := ⟨x_tb3 (List.mem_of_getElem? (i := 198) rfl), x_tb3 (List.mem_of_getElem? (i := 200) rfl), x_sel (q := (⟨"RowPacker$Weigher", "makeRow", "(II)I"⟩, _)) (List.mem_append_left _ (List.mem_of_getElem? (i := 11) rfl)), lb_WE_makeRow⟩
theorem lk_10_46 : x_LV 10 46 mWE_countSymbols 2 := ⟨x_tb3 (List.mem_of_getElem? (i := 202) rfl), x_tb3 (List.mem_of_getElem? (i := 204) rfl), x_sel (q := (⟨"RowPacker$Weigher", "countSymbols", "(I[I)V"⟩, _)) (List.mem_append_left _ (List.mem_of_getElem? (i := 12) rfl)), lb_WE_countSymbols⟩
theorem lk_3_52 : x_LV 3 52 mWC_manyWithCode 0 := ⟨x_tb3 (List.mem_of_getElem? (i := 206) rfl), x_tb3 (List.mem_of_getElem? (i := 207) rfl), x_tb3 (List.mem_of_getElem? (i := 208) rfl), lb_WC_manyWithCode⟩
theorem lk_3_60 : x_LS 3 60 mMA_max 2 := ⟨x_tb3 (List.mem_of_getElem? (i := 210) rfl), x_tb3 (List.mem_of_getElem? (i := 155) rfl), lb_MA_max⟩
-- RowPacker$MadeCodes 69 -> ('java/lang/System', 'arraycopy', '(Ljava/lang/Object;ILjava/lang/Object;II)V')
theorem lk_3_75 : x_LV 3 75 mMC_tellRow 1 := ⟨x_tb3 (List.mem_of_getElem? (i := 214) rfl), x_tb3 (List.mem_of_getElem? (i := 216) rfl), x_sel (q := (⟨"RowPacker$MadeCodes", "tellRow", "(I)V"⟩, _)) (List.mem_append_left _ (List.mem_of_getElem? (i := 13) rfl)), lb_MC_tellRow⟩
theorem lk_3_107 : x_LV 3 107 mMC_tellRun 2 := ⟨x_tb3 (List.mem_of_getElem? (i := 218) rfl), x_tb3 (List.mem_of_getElem? (i := 220) rfl), x_sel (q := (⟨"RowPacker$MadeCodes", "tellRun", "(II)V"⟩, _)) (List.mem_append_left _ (List.mem_of_getElem? (i := 14) rfl)), lb_MC_tellRun⟩
theorem lk_3_110 : x_LV 3 110 mMC_tell 2 := ⟨x_tb3 (List.mem_of_getElem? (i := 222) rfl), x_tb3 (List.mem_of_getElem? (i := 224) rfl), x_sel (q := (⟨"RowPacker$MadeCodes", "tell", "(II)V"⟩, _)) (List.mem_append_left _ (List.mem_of_getElem? (i := 15) rfl)), lb_MC_tell⟩
theorem lk_3_113 : x_LS 3 113 mMA_min 2 := ⟨x_tb3 (List.mem_of_getElem? (i := 226) rfl), x_tb3 (List.mem_of_getElem? (i := 148) rfl), lb_MA_min⟩
theorem lk_3_78 : x_LV 3 78 mMC_weighTold 0 := ⟨x_tb3 (List.mem_of_getElem? (i := 227) rfl), x_tb3 (List.mem_of_getElem? (i := 229) rfl), x_sel (q := (⟨"RowPacker$MadeCodes", "weighTold", "()V"⟩, _)) (List.mem_append_right _ (List.mem_append_left _ (List.mem_of_getElem? (i := 0) rfl))), lb_MC_weighTold⟩
theorem lk_3_116 : x_LS 3 116 mAR_fill 2 := ⟨x_tb3 (List.mem_of_getElem? (i := 231) rfl), x_tb2 (List.mem_of_getElem? (i := 17) rfl), lb_AR_fill⟩
theorem lk_4_119 : x_LV 4 119 mPK_writeBlock 1 := ⟨x_tb3 (List.mem_of_getElem? (i := 234) rfl), x_tb3 (List.mem_of_getElem? (i := 236) rfl), x_sel (q := (⟨"RowPacker$Packer", "writeBlock", "(Z)V"⟩, _)) (List.mem_append_right _ (List.mem_append_left _ (List.mem_of_getElem? (i := 1) rfl))), lb_PK_writeBlock⟩
theorem lk_4_188 : x_LV 4 188 mBW_bitsWritten 0 := ⟨x_tb3 (List.mem_of_getElem? (i := 238) rfl), x_tb3 (List.mem_of_getElem? (i := 239) rfl), x_tb4 (List.mem_of_getElem? (i := 0) rfl), lb_BW_bitsWritten⟩
theorem lk_4_192 : x_LV 4 192 mPK_fewestBits 1 := ⟨x_tb4 (List.mem_of_getElem? (i := 2) rfl), x_tb4 (List.mem_of_getElem? (i := 4) rfl), x_sel (q := (⟨"RowPacker$Packer", "fewestBits", "(I)I"⟩, _)) (List.mem_append_right _ (List.mem_append_left _ (List.mem_of_getElem? (i := 2) rfl))), lb_PK_fewestBits⟩
theorem lk_4_216 : x_LV 4 216 mWC_bitsFor 1 := ⟨x_tb4 (List.mem_of_getElem? (i := 6) rfl), x_tb4 (List.mem_of_getElem? (i := 7) rfl), x_tb4 (List.mem_of_getElem? (i := 8) rfl), lb_WC_bitsFor⟩
theorem lk_4_220 : x_LV 4 220 mMC_bitsOfTelling 0 := ⟨x_tb4 (List.mem_of_getElem? (i := 10) rfl), x_tb4 (List.mem_of_getElem? (i := 11) rfl), x_tb4 (List.mem_of_getElem? (i := 12) rfl), lb_MC_bitsOfTelling⟩
theorem lk_3_90 : x_LS 3 90 mMC_numberBits 1 := ⟨x_tb4 (List.mem_of_getElem? (i := 14) rfl), x_tb4 (List.mem_of_getElem? (i := 15) rfl), lb_MC_numberBits⟩
theorem lk_4_195 : x_LV 4 195 mPK_writePlain 0 := ⟨x_tb4 (List.mem_of_getElem? (i := 17) rfl), x_tb4 (List.mem_of_getElem? (i := 19) rfl), x_sel (q := (⟨"RowPacker$Packer", "writePlain", "()V"⟩, _)) (List.mem_append_right _ (List.mem_append_left _ (List.mem_of_getElem? (i := 3) rfl))), lb_PK_writePlain⟩
theorem lk_4_123 : x_LV 4 123 mBW_fillByte 0 := ⟨x_tb4 (List.mem_of_getElem? (i := 21) rfl), x_tb4 (List.mem_of_getElem? (i := 22) rfl), x_tb4 (List.mem_of_getElem? (i := 23) rfl), lb_BW_fillByte⟩
theorem lk_1_29 : x_LV 1 29 mBW_writeNumber 2 := ⟨x_tb4 (List.mem_of_getElem? (i := 25) rfl), x_tb3 (List.mem_of_getElem? (i := 121) rfl), x_tb3 (List.mem_of_getElem? (i := 122) rfl), lb_BW_writeNumber⟩
theorem lk_4_198 : x_LV 4 198 mPK_writePieces 2 := ⟨x_tb4 (List.mem_of_getElem? (i := 27) rfl), x_tb4 (List.mem_of_getElem? (i := 29) rfl), x_sel (q := (⟨"RowPacker$Packer", "writePieces", "(LRowPacker$WriteCode;LRowPacker$WriteCode;)V"⟩, _)) (List.mem_append_right _ (List.mem_append_left _ (List.mem_of_getElem? (i := 4) rfl))), lb_PK_writePieces⟩
theorem lk_4_224 : x_LV 4 224 mBW_writeSymbol 2 := ⟨x_tb4 (List.mem_of_getElem? (i := 31) rfl), x_tb4 (List.mem_of_getElem? (i := 32) rfl), x_tb4 (List.mem_of_getElem? (i := 33) rfl), lb_BW_writeSymbol⟩
theorem lk_4_228 : x_LSN 4 228 mRP_lengthBase 1 := ⟨x_tb4 (List.mem_of_getElem? (i := 35) rfl), x_tb4 (List.mem_of_getElem? (i := 36) rfl), lb_RP_lengthBase⟩
theorem lk_0_116 : x_LS 0 116 mRP_lengthBits 1 := ⟨x_tb4 (List.mem_of_getElem? (i := 38) rfl), x_tb3 (List.mem_of_getElem? (i := 175) rfl), lb_RP_lengthBits⟩
theorem lk_4_231 : x_LSN 4 231 mRP_distanceBase 1 := ⟨x_tb4 (List.mem_of_getElem? (i := 39) rfl), x_tb4 (List.mem_of_getElem? (i := 40) rfl), lb_RP_distanceBase⟩
theorem lk_0_123 : x_LS 0 123 mRP_distanceBits 1 := ⟨x_tb4 (List.mem_of_getElem? (i := 42) rfl), x_tb3 (List.mem_of_getElem? (i := 178) rfl), lb_RP_distanceBits⟩
theorem lk_4_208 : x_LV 4 208 mMC_writeTelling 1 := ⟨x_tb4 (List.mem_of_getElem? (i := 43) rfl), x_tb4 (List.mem_of_getElem? (i := 44) rfl), x_tb4 (List.mem_of_getElem? (i := 45) rfl), lb_MC_writeTelling⟩
theorem lk_3_94 : x_LV 3 94 mWC_makeWords 0 := ⟨x_tb4 (List.mem_of_getElem? (i := 47) rfl), x_tb2 (List.mem_of_getElem? (i := 20) rfl), x_tb2 (List.mem_of_getElem? (i := 21) rfl), lb_WC_makeWords⟩
theorem lk_3_97 : x_LV 3 97 mBW_writeNumber 2 := ⟨x_tb4 (List.mem_of_getElem? (i := 48) rfl), x_tb3 (List.mem_of_getElem? (i := 121) rfl), x_tb3 (List.mem_of_getElem? (i := 122) rfl), lb_BW_writeNumber⟩
theorem lk_3_103 : x_LV 3 103 mBW_writeSymbol 2 := ⟨x_tb4 (List.mem_of_getElem? (i := 49) rfl), x_tb4 (List.mem_of_getElem? (i := 32) rfl), x_tb4 (List.mem_of_getElem? (i := 33) rfl), lb_BW_writeSymbol⟩
theorem lk_4_212 : x_LV 4 212 mRE_addBlock 4 := ⟨x_tb4 (List.mem_of_getElem? (i := 50) rfl), x_tb4 (List.mem_of_getElem? (i := 51) rfl), x_tb4 (List.mem_of_getElem? (i := 52) rfl), lb_RE_addBlock⟩
theorem lk_4_126 : x_LV 4 126 mPK_writeTail 1 := ⟨x_tb4 (List.mem_of_getElem? (i := 54) rfl), x_tb4 (List.mem_of_getElem? (i := 56) rfl), x_sel (q := (⟨"RowPacker$Packer", "writeTail", "(I)V"⟩, _)) (List.mem_append_right _ (List.mem_append_left _ (List.mem_of_getElem? (i := 5) rfl))), lb_PK_writeTail⟩
theorem lk_4_133 : x_LV 4 133 mSU_sumA 3 := ⟨x_tb4 (List.mem_of_getElem? (i := 58) rfl), x_tb4 (List.mem_of_getElem? (i := 59) rfl), x_tb4 (List.mem_of_getElem? (i := 60) rfl), lb_SU_sumA⟩
theorem lk_8_14 : x_LV 8 14 mRO_byteAt 1 := ⟨x_tb4 (List.mem_of_getElem? (i := 62) rfl), x_tb3 (List.mem_of_getElem? (i := 89) rfl), x_tb3 (List.mem_of_getElem? (i := 90) rfl), lb_RO_byteAt⟩
theorem lk_4_139 : x_LV 4 139 mBW_writeFour 2 := ⟨x_tb4 (List.mem_of_getElem? (i := 65) rfl), x_tb4 (List.mem_of_getElem? (i := 66) rfl), x_tb4 (List.mem_of_getElem? (i := 67) rfl), lb_BW_writeFour⟩
theorem lk_4_143 : x_LV 4 143 mSU_sumB 3 := ⟨x_tb4 (List.mem_of_getElem? (i := 69) rfl), x_tb4 (List.mem_of_getElem? (i := 70) rfl), x_tb4 (List.mem_of_getElem? (i := 71) rfl), lb_SU_sumB⟩
-- RowPackerLaw 79 -> ('RowPackerLaw', 'unpack', '(LRowPacker;I[J)I')
theorem lk_16_34 : x_LV 16 34 mRP_unpack 1 := ⟨x_tb4 (List.mem_of_getElem? (i := 77) rfl), x_tb4 (List.mem_of_getElem? (i := 78) rfl), x_tb4 (List.mem_of_getElem? (i := 79) rfl), lb_RP_unpack⟩
theorem lk_0_84 : x_LV 0 84 mUN_unpackTape 1 := ⟨x_tb4 (List.mem_of_getElem? (i := 81) rfl), x_tb4 (List.mem_of_getElem? (i := 82) rfl), x_tb4 (List.mem_of_getElem? (i := 83) rfl), lb_UN_unpackTape⟩
theorem lk_9_63 : x_LV 9 63 mRE_clear 0 := ⟨x_tb4 (List.mem_of_getElem? (i := 85) rfl), x_tb3 (List.mem_of_getElem? (i := 104) rfl), x_tb3 (List.mem_of_getElem? (i := 105) rfl), lb_RE_clear⟩
theorem lk_9_84 : x_LV 9 84 mUN_readHead 1 := ⟨x_tb4 (List.mem_of_getElem? (i := 87) rfl), x_tb4 (List.mem_of_getElem? (i := 89) rfl), x_sel (q := (⟨"RowPacker$Unpacker", "readHead", "(I)Z"⟩, _)) (List.mem_append_right _ (List.mem_append_left _ (List.mem_of_getElem? (i := 6) rfl))), lb_UN_readHead⟩
theorem lk_9_105 : x_LV 9 105 mUN_readShortHead 0 := ⟨x_tb4 (List.mem_of_getElem? (i := 91) rfl), x_tb4 (List.mem_of_getElem? (i := 93) rfl), x_sel (q := (⟨"RowPacker$Unpacker", "readShortHead", "()Z"⟩, _)) (List.mem_append_right _ (List.mem_append_left _ (List.mem_of_getElem? (i := 7) rfl))), lb_UN_readShortHead⟩
theorem lk_9_111 : x_LV 9 111 mUN_readNumber 1 := ⟨x_tb4 (List.mem_of_getElem? (i := 95) rfl), x_tb4 (List.mem_of_getElem? (i := 97) rfl), x_sel (q := (⟨"RowPacker$Unpacker", "readNumber", "(I)I"⟩, _)) (List.mem_append_right _ (List.mem_append_left _ (List.mem_of_getElem? (i := 8) rfl))), lb_UN_readNumber⟩
theorem lk_9_98 : x_LV 9 98 mUN_fail 2 := ⟨x_tb4 (List.mem_of_getElem? (i := 99) rfl), x_tb4 (List.mem_of_getElem? (i := 101) rfl), x_sel (q := (⟨"RowPacker$Unpacker", "fail", "(II)Z"⟩, _)) (List.mem_append_right _ (List.mem_append_left _ (List.mem_of_getElem? (i := 9) rfl))), lb_UN_fail⟩
theorem lk_9_108 : x_LV 9 108 mUN_readLongHead 0 := ⟨x_tb4 (List.mem_of_getElem? (i := 103) rfl), x_tb4 (List.mem_of_getElem? (i := 105) rfl), x_sel (q := (⟨"RowPacker$Unpacker", "readLongHead", "()Z"⟩, _)) (List.mem_append_right _ (List.mem_append_left _ (List.mem_of_getElem? (i := 10) rfl))), lb_UN_readLongHead⟩
theorem lk_9_114 : x_LV 9 114 mUN_readByteThatIs 1 := ⟨x_tb4 (List.mem_of_getElem? (i := 107) rfl), x_tb4 (List.mem_of_getElem? (i := 109) rfl), x_sel (q := (⟨"RowPacker$Unpacker", "readByteThatIs", "(I)Z"⟩, _)) (List.mem_append_right _ (List.mem_append_left _ (List.mem_of_getElem? (i := 11) rfl))), lb_UN_readByteThatIs⟩
theorem lk_9_117 : x_LV 9 117 mUN_skipBytes 1 := ⟨x_tb4 (List.mem_of_getElem? (i := 111) rfl), x_tb4 (List.mem_of_getElem? (i := 113) rfl), x_sel (q := (⟨"RowPacker$Unpacker", "skipBytes", "(I)Z"⟩, _)) (List.mem_append_right _ (List.mem_append_left _ (List.mem_of_getElem? (i := 12) rfl))), lb_UN_skipBytes⟩
theorem lk_9_120 : x_LV 9 120 mUN_skipThroughZero 0 := ⟨x_tb4 (List.mem_of_getElem? (i := 115) rfl), x_tb4 (List.mem_of_getElem? (i := 117) rfl), x_sel (q := (⟨"RowPacker$Unpacker", "skipThroughZero", "()Z"⟩, _)) (List.mem_append_right _ (List.mem_append_left _ (List.mem_of_getElem? (i := 13) rfl))), lb_UN_skipThroughZero⟩
theorem lk_9_141 : x_LV 9 141 mRO_byteAt 1 := ⟨x_tb4 (List.mem_of_getElem? (i := 119) rfl), x_tb3 (List.mem_of_getElem? (i := 89) rfl), x_tb3 (List.mem_of_getElem? (i := 90) rfl), lb_RO_byteAt⟩
theorem lk_9_123 : x_LV 9 123 mUN_readSumOfHead 1 := ⟨x_tb4 (List.mem_of_getElem? (i := 120) rfl), x_tb4 (List.mem_of_getElem? (i := 122) rfl), x_sel (q := (⟨"RowPacker$Unpacker", "readSumOfHead", "(I)Z"⟩, _)) (List.mem_append_right _ (List.mem_append_left _ (List.mem_of_getElem? (i := 14) rfl))), lb_UN_readSumOfHead⟩
theorem lk_9_126 : x_LV 9 126 mSU_sumB 3 := ⟨x_tb4 (List.mem_of_getElem? (i := 124) rfl), x_tb4 (List.mem_of_getElem? (i := 70) rfl), x_tb4 (List.mem_of_getElem? (i := 71) rfl), lb_SU_sumB⟩
theorem lk_9_88 : x_LV 9 88 mUN_readBlocks 0 := ⟨x_tb4 (List.mem_of_getElem? (i := 126) rfl), x_tb4 (List.mem_of_getElem? (i := 128) rfl), x_sel (q := (⟨"RowPacker$Unpacker", "readBlocks", "()Z"⟩, _)) (List.mem_append_right _ (List.mem_append_left _ (List.mem_of_getElem? (i := 15) rfl))), lb_UN_readBlocks⟩
theorem lk_9_158 : x_LV 9 158 mUN_readPlain 0 := ⟨x_tb4 (List.mem_of_getElem? (i := 131) rfl), x_tb4 (List.mem_of_getElem? (i := 133) rfl), x_sel (q := (⟨"RowPacker$Unpacker", "readPlain", "()Z"⟩, _)) (List.mem_append_right _ (List.mem_append_right _ (List.mem_append_left _ (List.mem_of_getElem? (i := 0) rfl)))), lb_UN_readPlain⟩
theorem lk_9_172 : x_LV 9 172 mUN_goToNextByte 0 := ⟨x_tb4 (List.mem_of_getElem? (i := 135) rfl), x_tb4 (List.mem_of_getElem? (i := 137) rfl), x_sel (q := (⟨"RowPacker$Unpacker", "goToNextByte", "()V"⟩, _)) (List.mem_append_right _ (List.mem_append_right _ (List.mem_append_left _ (List.mem_of_getElem? (i := 1) rfl)))), lb_UN_goToNextByte⟩
-- RowPacker$Unpacker 177 -> ('java/lang/System', 'arraycopy', '(Ljava/lang/Object;ILjava/lang/Object;II)V')
theorem lk_9_161 : x_LV 9 161 mUN_readSymbols 2 := ⟨x_tb4 (List.mem_of_getElem? (i := 142) rfl), x_tb4 (List.mem_of_getElem? (i := 144) rfl), x_sel (q := (⟨"RowPacker$Unpacker", "readSymbols", "(LRowPacker$ReadCode;LRowPacker$ReadCode;)Z"⟩, _)) (List.mem_append_right _ (List.mem_append_right _ (List.mem_append_left _ (List.mem_of_getElem? (i := 2) rfl)))), lb_UN_readSymbols⟩
theorem lk_9_201 : x_LV 9 201 mUN_readSymbol 1 := ⟨x_tb4 (List.mem_of_getElem? (i := 146) rfl), x_tb4 (List.mem_of_getElem? (i := 148) rfl), x_sel (q := (⟨"RowPacker$Unpacker", "readSymbol", "(LRowPacker$ReadCode;)I"⟩, _)) (List.mem_append_right _ (List.mem_append_right _ (List.mem_append_left _ (List.mem_of_getElem? (i := 3) rfl)))), lb_UN_readSymbol⟩
theorem lk_9_205 : x_LV 9 205 mUN_readStretch 3 := ⟨x_tb4 (List.mem_of_getElem? (i := 150) rfl), x_tb4 (List.mem_of_getElem? (i := 152) rfl), x_sel (q := (⟨"RowPacker$Unpacker", "readStretch", "(IILRowPacker$ReadCode;)Z"⟩, _)) (List.mem_append_right _ (List.mem_append_right _ (List.mem_append_left _ (List.mem_of_getElem? (i := 4) rfl)))), lb_UN_readStretch⟩
theorem lk_9_213 : x_LSN 9 213 mRP_lengthBits 1 := ⟨x_tb4 (List.mem_of_getElem? (i := 154) rfl), x_tb3 (List.mem_of_getElem? (i := 175) rfl), lb_RP_lengthBits⟩
theorem lk_9_216 : x_LSN 9 216 mRP_distanceBits 1 := ⟨x_tb4 (List.mem_of_getElem? (i := 155) rfl), x_tb3 (List.mem_of_getElem? (i := 178) rfl), lb_RP_distanceBits⟩
theorem lk_9_219 : x_LSN 9 219 mRP_lengthBase 1 := ⟨x_tb4 (List.mem_of_getElem? (i := 156) rfl), x_tb4 (List.mem_of_getElem? (i := 36) rfl), lb_RP_lengthBase⟩
theorem lk_9_222 : x_LSN 9 222 mRP_distanceBase 1 := ⟨x_tb4 (List.mem_of_getElem? (i := 157) rfl), x_tb4 (List.mem_of_getElem? (i := 40) rfl), lb_RP_distanceBase⟩
theorem lk_9_225 : x_LV 9 225 mRO_repeat 2 := ⟨x_tb4 (List.mem_of_getElem? (i := 158) rfl), x_tb3 (List.mem_of_getElem? (i := 62) rfl), x_tb3 (List.mem_of_getElem? (i := 63) rfl), lb_RO_repeat⟩
theorem lk_9_209 : x_LV 9 209 mRO_add 1 := ⟨x_tb4 (List.mem_of_getElem? (i := 159) rfl), x_tb3 (List.mem_of_getElem? (i := 28) rfl), x_tb3 (List.mem_of_getElem? (i := 29) rfl), lb_RO_add⟩
theorem lk_9_165 : x_LV 9 165 mUN_readCodes 0 := ⟨x_tb4 (List.mem_of_getElem? (i := 160) rfl), x_tb4 (List.mem_of_getElem? (i := 162) rfl), x_sel (q := (⟨"RowPacker$Unpacker", "readCodes", "()Z"⟩, _)) (List.mem_append_right _ (List.mem_append_right _ (List.mem_append_left _ (List.mem_of_getElem? (i := 5) rfl)))), lb_UN_readCodes⟩
theorem lk_9_183 : x_LV 9 183 mUN_readCodeOfLengths 0 := ⟨x_tb4 (List.mem_of_getElem? (i := 164) rfl), x_tb4 (List.mem_of_getElem? (i := 166) rfl), x_sel (q := (⟨"RowPacker$Unpacker", "readCodeOfLengths", "()Z"⟩, _)) (List.mem_append_right _ (List.mem_append_right _ (List.mem_append_left _ (List.mem_of_getElem? (i := 6) rfl)))), lb_UN_readCodeOfLengths⟩
theorem lk_9_195 : x_LS 9 195 mAR_fill2 4 := ⟨x_tb4 (List.mem_of_getElem? (i := 168) rfl), x_tb4 (List.mem_of_getElem? (i := 169) rfl), lb_AR_fill2⟩
theorem lk_17_13 : x_LS 17 13 mAR_rangeCheck 3 := ⟨x_tb4 (List.mem_of_getElem? (i := 171) rfl), x_tb4 (List.mem_of_getElem? (i := 172) rfl), lb_AR_rangeCheck⟩
-- java/util/Arrays 47 -> ('java/lang/StringBuilder', '<init>', '()V')
-- java/util/Arrays 50 -> ('java/lang/StringBuilder', 'append', '(Ljava/lang/String;)Ljava/lang/StringBuilder;')
-- java/util/Arrays 310 -> ('[B', 'clone', '()Ljava/lang/Object;')
theorem lk_17_304 : x_LS 17 304 mMA_min 2 := ⟨x_tb5 (List.mem_of_getElem? (i := 5) rfl), x_tb3 (List.mem_of_getElem? (i := 148) rfl), lb_MA_min⟩
-- java/util/Arrays 150 -> ('java/lang/System', 'arraycopy', '(Ljava/lang/Object;ILjava/lang/Object;II)V')
-- java/util/Arrays 54 -> ('java/lang/StringBuilder', 'append', '(I)Ljava/lang/StringBuilder;')
-- java/util/Arrays 61 -> ('java/lang/StringBuilder', 'toString', '()Ljava/lang/String;')
-- java/util/Arrays 339 -> ('java/util/Arrays', 'copyOfRangeByte', '([BII)[B')
-- java/util/Arrays 343 -> ('java/util/Arrays', 'checkLength', '(II)V')
-- java/util/Arrays 65 -> ('java/lang/IllegalArgumentException', '<init>', '(Ljava/lang/String;)V')
-- java/lang/IllegalArgumentException 7 -> ('java/lang/RuntimeException', '<init>', '(Ljava/lang/String;)V')
-- java/util/Arrays 70 -> ('java/lang/ArrayIndexOutOfBoundsException', '<init>', '(I)V')
-- java/lang/IndexOutOfBoundsException 7 -> ('java/lang/RuntimeException', '<init>', '(Ljava/lang/String;)V')
theorem lk_9_189 : x_LV 9 189 mRC_isFull 0 := ⟨x_tb5 (List.mem_of_getElem? (i := 204) rfl), x_tb5 (List.mem_of_getElem? (i := 205) rfl), x_tb5 (List.mem_of_getElem? (i := 206) rfl), lb_RC_isFull⟩
theorem lk_9_186 : x_LV 9 186 mUN_readLengths 1 := ⟨x_tb5 (List.mem_of_getElem? (i := 209) rfl), x_tb5 (List.mem_of_getElem? (i := 211) rfl), x_sel (q := (⟨"RowPacker$Unpacker", "readLengths", "(I)Z"⟩, _)) (List.mem_append_right _ (List.mem_append_right _ (List.mem_append_left _ (List.mem_of_getElem? (i := 7) rfl)))), lb_UN_readLengths⟩
theorem lk_9_192 : x_LV 9 192 mRC_servesDistances 0 := ⟨x_tb5 (List.mem_of_getElem? (i := 213) rfl), x_tb5 (List.mem_of_getElem? (i := 214) rfl), x_tb5 (List.mem_of_getElem? (i := 215) rfl), lb_RC_servesDistances⟩
theorem lk_5_32 : x_LV 5 32 mRC_isFull 0 := ⟨x_tb5 (List.mem_of_getElem? (i := 217) rfl), x_tb5 (List.mem_of_getElem? (i := 205) rfl), x_tb5 (List.mem_of_getElem? (i := 206) rfl), lb_RC_isFull⟩
theorem lk_9_168 : x_LV 9 168 mRE_addBlock 4 := ⟨x_tb5 (List.mem_of_getElem? (i := 218) rfl), x_tb4 (List.mem_of_getElem? (i := 51) rfl), x_tb4 (List.mem_of_getElem? (i := 52) rfl), lb_RE_addBlock⟩
theorem lk_9_92 : x_LV 9 92 mUN_readTail 1 := ⟨x_tb5 (List.mem_of_getElem? (i := 219) rfl), x_tb5 (List.mem_of_getElem? (i := 221) rfl), x_sel (q := (⟨"RowPacker$Unpacker", "readTail", "(I)Z"⟩, _)) (List.mem_append_right _ (List.mem_append_right _ (List.mem_append_left _ (List.mem_of_getElem? (i := 8) rfl)))), lb_UN_readTail⟩
theorem lk_9_134 : x_LV 9 134 mSU_sumA 3 := ⟨x_tb5 (List.mem_of_getElem? (i := 223) rfl), x_tb4 (List.mem_of_getElem? (i := 59) rfl), x_tb4 (List.mem_of_getElem? (i := 60) rfl), lb_SU_sumA⟩
theorem lk_9_137 : x_LV 9 137 mUN_readFourThatAre 3 := ⟨x_tb5 (List.mem_of_getElem? (i := 224) rfl), x_tb5 (List.mem_of_getElem? (i := 226) rfl), x_sel (q := (⟨"RowPacker$Unpacker", "readFourThatAre", "(JZI)Z"⟩, _)) (List.mem_append_right _ (List.mem_append_right _ (List.mem_append_left _ (List.mem_of_getElem? (i := 9) rfl)))), lb_UN_readFourThatAre⟩
-- RowPackerLaw 94 -> ('RowPackerLaw', 'out', '(LRowPacker;I[J)I')
theorem lk_16_37 : x_LV 16 37 mRP_out 1 := ⟨x_tb5 (List.mem_of_getElem? (i := 231) rfl), x_tb5 (List.mem_of_getElem? (i := 232) rfl), x_tb5 (List.mem_of_getElem? (i := 233) rfl), lb_RP_out⟩
-- RowPackerLaw 97 -> ('RowPackerLaw', 'turn', '(LRowPacker;[J)I')
theorem lk_16_40 : x_LV 16 40 mRP_turn 0 := ⟨x_tb5 (List.mem_of_getElem? (i := 238) rfl), x_tb5 (List.mem_of_getElem? (i := 239) rfl), x_tb6 (List.mem_of_getElem? (i := 0) rfl), lb_RP_turn⟩
-- RowPacker 93 -> ('java/lang/System', 'arraycopy', '(Ljava/lang/Object;ILjava/lang/Object;II)V')
-- RowPackerLaw 101 -> ('RowPackerLaw', 'sum', '(LRowPacker;I[J)I')
theorem lk_16_44 : x_LV 16 44 mRP_sum 1 := ⟨x_tb6 (List.mem_of_getElem? (i := 6) rfl), x_tb6 (List.mem_of_getElem? (i := 7) rfl), x_tb6 (List.mem_of_getElem? (i := 8) rfl), lb_RP_sum⟩
theorem lk_0_99 : x_LV 0 99 mSU_sumA 3 := ⟨x_tb6 (List.mem_of_getElem? (i := 10) rfl), x_tb4 (List.mem_of_getElem? (i := 59) rfl), x_tb4 (List.mem_of_getElem? (i := 60) rfl), lb_SU_sumA⟩
theorem lk_0_103 : x_LV 0 103 mSU_sumB 3 := ⟨x_tb6 (List.mem_of_getElem? (i := 11) rfl), x_tb4 (List.mem_of_getElem? (i := 70) rfl), x_tb4 (List.mem_of_getElem? (i := 71) rfl), lb_SU_sumB⟩
-- RowPackerLaw 108 -> ('RowPackerLaw', 'block', '(LRowPacker;II[J)I')
theorem lk_16_48 : x_LV 16 48 mRP_block 2 := ⟨x_tb6 (List.mem_of_getElem? (i := 15) rfl), x_tb6 (List.mem_of_getElem? (i := 16) rfl), x_tb6 (List.mem_of_getElem? (i := 17) rfl), lb_RP_block⟩
theorem lk_16_54 : x_LI 16 54 mMO_init 0 := ⟨x_tb6 (List.mem_of_getElem? (i := 21) rfl), x_tb6 (List.mem_of_getElem? (i := 22) rfl), rfl, rfl, lb_MO_init⟩
theorem lo_12_1 : Cond.methodLink (x_cn 12) 1 Lib.objectInit ∈ x_tw := x_tb6 (List.mem_of_getElem? (i := 24) rfl)
theorem lk_16_61 : x_LV 16 61 mMO_thrown 0 := ⟨x_tb6 (List.mem_of_getElem? (i := 131) rfl), x_tb6 (List.mem_of_getElem? (i := 132) rfl), x_tb6 (List.mem_of_getElem? (i := 133) rfl), lb_MO_thrown⟩
theorem lk_16_60 : x_LV 16 60 mMO_feed 5 := ⟨x_tb6 (List.mem_of_getElem? (i := 135) rfl), x_tb6 (List.mem_of_getElem? (i := 136) rfl), x_tb6 (List.mem_of_getElem? (i := 137) rfl), lb_MO_feed⟩
theorem lk_12_85 : x_LV 12 85 mMO_type 1 := ⟨x_tb6 (List.mem_of_getElem? (i := 139) rfl), x_tb6 (List.mem_of_getElem? (i := 141) rfl), x_sel (q := (⟨"RowPackerModel", "type", "(I)V"⟩, _)) (List.mem_append_right _ (List.mem_append_right _ (List.mem_append_left _ (List.mem_of_getElem? (i := 10) rfl)))), lb_MO_type⟩
theorem lk_16_67 : x_LV 16 67 mMO_end 1 := ⟨x_tb6 (List.mem_of_getElem? (i := 143) rfl), x_tb6 (List.mem_of_getElem? (i := 144) rfl), x_tb6 (List.mem_of_getElem? (i := 145) rfl), lb_MO_end⟩
theorem lk_16_71 : x_LV 16 71 mMO_again 2 := ⟨x_tb6 (List.mem_of_getElem? (i := 147) rfl), x_tb6 (List.mem_of_getElem? (i := 148) rfl), x_tb6 (List.mem_of_getElem? (i := 149) rfl), lb_MO_again⟩
theorem lk_16_74 : x_LV 16 74 mMO_change 2 := ⟨x_tb6 (List.mem_of_getElem? (i := 151) rfl), x_tb6 (List.mem_of_getElem? (i := 152) rfl), x_tb6 (List.mem_of_getElem? (i := 153) rfl), lb_MO_change⟩
theorem lk_16_103 : x_LV 16 103 mMO_sum 1 := ⟨x_tb6 (List.mem_of_getElem? (i := 155) rfl), x_tb6 (List.mem_of_getElem? (i := 156) rfl), x_tb6 (List.mem_of_getElem? (i := 157) rfl), lb_MO_sum⟩
theorem lk_12_101 : x_LS 12 101 mMO_sumA 3 := ⟨x_tb6 (List.mem_of_getElem? (i := 159) rfl), x_tb6 (List.mem_of_getElem? (i := 160) rfl), lb_MO_sumA⟩
theorem lk_12_105 : x_LS 12 105 mMO_sumB 3 := ⟨x_tb6 (List.mem_of_getElem? (i := 164) rfl), x_tb6 (List.mem_of_getElem? (i := 165) rfl), lb_MO_sumB⟩
theorem lk_16_81 : x_LV 16 81 mMO_unpack 1 := ⟨x_tb6 (List.mem_of_getElem? (i := 171) rfl), x_tb6 (List.mem_of_getElem? (i := 172) rfl), x_tb6 (List.mem_of_getElem? (i := 173) rfl), lb_MO_unpack⟩
theorem lk_12_219 : x_LV 12 219 mMO_clear 0 := ⟨x_tb6 (List.mem_of_getElem? (i := 175) rfl), x_tb6 (List.mem_of_getElem? (i := 177) rfl), x_sel (q := (⟨"RowPackerModel", "clear", "()V"⟩, _)) (List.mem_append_right _ (List.mem_append_right _ (List.mem_append_left _ (List.mem_of_getElem? (i := 11) rfl)))), lb_MO_clear⟩
theorem lk_12_193 : x_LV 12 193 mMO_readBlocks 0 := ⟨x_tb6 (List.mem_of_getElem? (i := 179) rfl), x_tb6 (List.mem_of_getElem? (i := 181) rfl), x_sel (q := (⟨"RowPackerModel", "readBlocks", "()V"⟩, _)) (List.mem_append_right _ (List.mem_append_right _ (List.mem_append_left _ (List.mem_of_getElem? (i := 12) rfl)))), lb_MO_readBlocks⟩
theorem lk_12_125 : x_LV 12 125 mMO_bit 0 := ⟨x_tb6 (List.mem_of_getElem? (i := 183) rfl), x_tb6 (List.mem_of_getElem? (i := 185) rfl), x_sel (q := (⟨"RowPackerModel", "bit", "()I"⟩, _)) (List.mem_append_right _ (List.mem_append_right _ (List.mem_append_left _ (List.mem_of_getElem? (i := 13) rfl)))), lb_MO_bit⟩
theorem lk_12_121 : x_LV 12 121 mMO_fail 2 := ⟨x_tb6 (List.mem_of_getElem? (i := 187) rfl), x_tb6 (List.mem_of_getElem? (i := 189) rfl), x_sel (q := (⟨"RowPackerModel", "fail", "(II)V"⟩, _)) (List.mem_append_right _ (List.mem_append_right _ (List.mem_append_left _ (List.mem_of_getElem? (i := 14) rfl)))), lb_MO_fail⟩
theorem lk_12_133 : x_LV 12 133 mMO_number 1 := ⟨x_tb6 (List.mem_of_getElem? (i := 191) rfl), x_tb6 (List.mem_of_getElem? (i := 193) rfl), x_sel (q := (⟨"RowPackerModel", "number", "(I)I"⟩, _)) (List.mem_append_right _ (List.mem_append_right _ (List.mem_append_left _ (List.mem_of_getElem? (i := 15) rfl)))), lb_MO_number⟩
theorem lk_12_174 : x_LV 12 174 mMO_readPlain 0 := ⟨x_tb6 (List.mem_of_getElem? (i := 195) rfl), x_tb6 (List.mem_of_getElem? (i := 197) rfl), x_sel (q := (⟨"RowPackerModel", "readPlain", "()V"⟩, _)) (List.mem_append_right _ (List.mem_append_right _ (List.mem_append_right _ (List.mem_append_left _ (List.mem_of_getElem? (i := 0) rfl))))), lb_MO_readPlain⟩
theorem lk_12_167 : x_LV 12 167 mMO_toByte 0 := ⟨x_tb6 (List.mem_of_getElem? (i := 199) rfl), x_tb6 (List.mem_of_getElem? (i := 201) rfl), x_sel (q := (⟨"RowPackerModel", "toByte", "()V"⟩, _)) (List.mem_append_right _ (List.mem_append_right _ (List.mem_append_right _ (List.mem_append_left _ (List.mem_of_getElem? (i := 1) rfl))))), lb_MO_toByte⟩
theorem lk_12_155 : x_LV 12 155 mMO_put 1 := ⟨x_tb6 (List.mem_of_getElem? (i := 204) rfl), x_tb6 (List.mem_of_getElem? (i := 206) rfl), x_sel (q := (⟨"RowPackerModel", "put", "(I)V"⟩, _)) (List.mem_append_right _ (List.mem_append_right _ (List.mem_append_right _ (List.mem_append_left _ (List.mem_of_getElem? (i := 2) rfl))))), lb_MO_put⟩
theorem lk_12_177 : x_LV 12 177 mMO_plainLengths 0 := ⟨x_tb6 (List.mem_of_getElem? (i := 208) rfl), x_tb6 (List.mem_of_getElem? (i := 210) rfl), x_sel (q := (⟨"RowPackerModel", "plainLengths", "()V"⟩, _)) (List.mem_append_right _ (List.mem_append_right _ (List.mem_append_right _ (List.mem_append_left _ (List.mem_of_getElem? (i := 3) rfl))))), lb_MO_plainLengths⟩
theorem lk_12_139 : x_LV 12 139 mMO_prepare 3 := ⟨x_tb6 (List.mem_of_getElem? (i := 212) rfl), x_tb6 (List.mem_of_getElem? (i := 214) rfl), x_sel (q := (⟨"RowPackerModel", "prepare", "(III)I"⟩, _)) (List.mem_append_right _ (List.mem_append_right _ (List.mem_append_right _ (List.mem_append_left _ (List.mem_of_getElem? (i := 4) rfl))))), lb_MO_prepare⟩
theorem lk_12_180 : x_LV 12 180 mMO_readCodes 0 := ⟨x_tb6 (List.mem_of_getElem? (i := 216) rfl), x_tb6 (List.mem_of_getElem? (i := 218) rfl), x_sel (q := (⟨"RowPackerModel", "readCodes", "()I"⟩, _)) (List.mem_append_right _ (List.mem_append_right _ (List.mem_append_right _ (List.mem_append_left _ (List.mem_of_getElem? (i := 5) rfl))))), lb_MO_readCodes⟩
theorem lk_12_136 : x_LS 12 136 mMO_orderOf 1 := ⟨x_tb6 (List.mem_of_getElem? (i := 220) rfl), x_tb6 (List.mem_of_getElem? (i := 221) rfl), lb_MO_orderOf⟩
theorem lk_12_143 : x_LV 12 143 mMO_readRow 1 := ⟨x_tb6 (List.mem_of_getElem? (i := 223) rfl), x_tb6 (List.mem_of_getElem? (i := 225) rfl), x_sel (q := (⟨"RowPackerModel", "readRow", "(I)V"⟩, _)) (List.mem_append_right _ (List.mem_append_right _ (List.mem_append_right _ (List.mem_append_left _ (List.mem_of_getElem? (i := 6) rfl))))), lb_MO_readRow⟩
theorem lk_12_129 : x_LV 12 129 mMO_symbol 2 := ⟨x_tb6 (List.mem_of_getElem? (i := 227) rfl), x_tb6 (List.mem_of_getElem? (i := 229) rfl), x_sel (q := (⟨"RowPackerModel", "symbol", "(II)I"⟩, _)) (List.mem_append_right _ (List.mem_append_right _ (List.mem_append_right _ (List.mem_append_left _ (List.mem_of_getElem? (i := 7) rfl))))), lb_MO_symbol⟩
theorem lk_12_183 : x_LV 12 183 mMO_readSymbols 1 := ⟨x_tb6 (List.mem_of_getElem? (i := 231) rfl), x_tb6 (List.mem_of_getElem? (i := 233) rfl), x_sel (q := (⟨"RowPackerModel", "readSymbols", "(I)V"⟩, _)) (List.mem_append_right _ (List.mem_append_right _ (List.mem_append_right _ (List.mem_append_left _ (List.mem_of_getElem? (i := 8) rfl))))), lb_MO_readSymbols⟩
theorem lk_12_108 : x_LS 12 108 mMO_leastLength 1 := ⟨x_tb6 (List.mem_of_getElem? (i := 235) rfl), x_tb6 (List.mem_of_getElem? (i := 236) rfl), lb_MO_leastLength⟩
theorem lk_12_158 : x_LS 12 158 mMO_lengthBits 1 := ⟨x_tb6 (List.mem_of_getElem? (i := 238) rfl), x_tb6 (List.mem_of_getElem? (i := 239) rfl), lb_MO_lengthBits⟩
theorem lk_12_161 : x_LV 12 161 mMO_distance 1 := ⟨x_tb7 (List.mem_of_getElem? (i := 1) rfl), x_tb7 (List.mem_of_getElem? (i := 3) rfl), x_sel (q := (⟨"RowPackerModel", "distance", "(I)I"⟩, _)) (List.mem_append_right _ (List.mem_append_right _ (List.mem_append_right _ (List.mem_append_left _ (List.mem_of_getElem? (i := 9) rfl))))), lb_MO_distance⟩
theorem lk_12_112 : x_LS 12 112 mMO_leastDistance 1 := ⟨x_tb7 (List.mem_of_getElem? (i := 5) rfl), x_tb7 (List.mem_of_getElem? (i := 6) rfl), lb_MO_leastDistance⟩
theorem lk_12_149 : x_LS 12 149 mMO_distanceBits 1 := ⟨x_tb7 (List.mem_of_getElem? (i := 8) rfl), x_tb7 (List.mem_of_getElem? (i := 9) rfl), lb_MO_distanceBits⟩
theorem lk_12_186 : x_LV 12 186 mMO_note 4 := ⟨x_tb7 (List.mem_of_getElem? (i := 11) rfl), x_tb7 (List.mem_of_getElem? (i := 13) rfl), x_sel (q := (⟨"RowPackerModel", "note", "(IIII)V"⟩, _)) (List.mem_append_right _ (List.mem_append_right _ (List.mem_append_right _ (List.mem_append_left _ (List.mem_of_getElem? (i := 10) rfl))))), lb_MO_note⟩
theorem lk_12_198 : x_LV 12 198 mMO_wantEnd 0 := ⟨x_tb7 (List.mem_of_getElem? (i := 15) rfl), x_tb7 (List.mem_of_getElem? (i := 17) rfl), x_sel (q := (⟨"RowPackerModel", "wantEnd", "()V"⟩, _)) (List.mem_append_right _ (List.mem_append_right _ (List.mem_append_right _ (List.mem_append_left _ (List.mem_of_getElem? (i := 11) rfl))))), lb_MO_wantEnd⟩
theorem lk_12_222 : x_LV 12 222 mMO_readShort 0 := ⟨x_tb7 (List.mem_of_getElem? (i := 19) rfl), x_tb7 (List.mem_of_getElem? (i := 21) rfl), x_sel (q := (⟨"RowPackerModel", "readShort", "()V"⟩, _)) (List.mem_append_right _ (List.mem_append_right _ (List.mem_append_right _ (List.mem_append_left _ (List.mem_of_getElem? (i := 12) rfl))))), lb_MO_readShort⟩
theorem lk_12_190 : x_LV 12 190 mMO_wrapped 0 := ⟨x_tb7 (List.mem_of_getElem? (i := 23) rfl), x_tb7 (List.mem_of_getElem? (i := 25) rfl), x_sel (q := (⟨"RowPackerModel", "wrapped", "()I"⟩, _)) (List.mem_append_right _ (List.mem_append_right _ (List.mem_append_right _ (List.mem_append_left _ (List.mem_of_getElem? (i := 13) rfl))))), lb_MO_wrapped⟩
theorem lk_12_225 : x_LV 12 225 mMO_readLong 0 := ⟨x_tb7 (List.mem_of_getElem? (i := 28) rfl), x_tb7 (List.mem_of_getElem? (i := 30) rfl), x_sel (q := (⟨"RowPackerModel", "readLong", "()V"⟩, _)) (List.mem_append_right _ (List.mem_append_right _ (List.mem_append_right _ (List.mem_append_left _ (List.mem_of_getElem? (i := 14) rfl))))), lb_MO_readLong⟩
theorem lk_12_212 : x_LV 12 212 mMO_readHead 0 := ⟨x_tb7 (List.mem_of_getElem? (i := 32) rfl), x_tb7 (List.mem_of_getElem? (i := 34) rfl), x_sel (q := (⟨"RowPackerModel", "readHead", "()V"⟩, _)) (List.mem_append_right _ (List.mem_append_right _ (List.mem_append_right _ (List.mem_append_left _ (List.mem_of_getElem? (i := 15) rfl))))), lb_MO_readHead⟩
theorem lk_12_201 : x_LV 12 201 mMO_want 1 := ⟨x_tb7 (List.mem_of_getElem? (i := 36) rfl), x_tb7 (List.mem_of_getElem? (i := 38) rfl), x_sel (q := (⟨"RowPackerModel", "want", "(I)V"⟩, _)) (List.mem_append_right _ (List.mem_append_right _ (List.mem_append_right _ (List.mem_append_right _ (List.mem_append_left _ (List.mem_of_getElem? (i := 0) rfl)))))), lb_MO_want⟩
theorem lk_12_204 : x_LV 12 204 mMO_skip 1 := ⟨x_tb7 (List.mem_of_getElem? (i := 40) rfl), x_tb7 (List.mem_of_getElem? (i := 42) rfl), x_sel (q := (⟨"RowPackerModel", "skip", "(I)V"⟩, _)) (List.mem_append_right _ (List.mem_append_right _ (List.mem_append_right _ (List.mem_append_right _ (List.mem_append_left _ (List.mem_of_getElem? (i := 1) rfl)))))), lb_MO_skip⟩
theorem lk_12_207 : x_LV 12 207 mMO_skipText 0 := ⟨x_tb7 (List.mem_of_getElem? (i := 44) rfl), x_tb7 (List.mem_of_getElem? (i := 46) rfl), x_sel (q := (⟨"RowPackerModel", "skipText", "()V"⟩, _)) (List.mem_append_right _ (List.mem_append_right _ (List.mem_append_right _ (List.mem_append_right _ (List.mem_append_left _ (List.mem_of_getElem? (i := 2) rfl)))))), lb_MO_skipText⟩
theorem lk_12_215 : x_LV 12 215 mMO_four 0 := ⟨x_tb7 (List.mem_of_getElem? (i := 49) rfl), x_tb7 (List.mem_of_getElem? (i := 51) rfl), x_sel (q := (⟨"RowPackerModel", "four", "()J"⟩, _)) (List.mem_append_right _ (List.mem_append_right _ (List.mem_append_right _ (List.mem_append_right _ (List.mem_append_left _ (List.mem_of_getElem? (i := 3) rfl)))))), lb_MO_four⟩
theorem lk_16_78 : x_LV 16 78 mMO_pack 1 := ⟨x_tb7 (List.mem_of_getElem? (i := 53) rfl), x_tb7 (List.mem_of_getElem? (i := 54) rfl), x_tb7 (List.mem_of_getElem? (i := 55) rfl), lb_MO_pack⟩
theorem lk_12_294 : x_LV 12 294 mMO_putNumber 2 := ⟨x_tb7 (List.mem_of_getElem? (i := 57) rfl), x_tb7 (List.mem_of_getElem? (i := 59) rfl), x_sel (q := (⟨"RowPackerModel", "putNumber", "(II)V"⟩, _)) (List.mem_append_right _ (List.mem_append_right _ (List.mem_append_right _ (List.mem_append_right _ (List.mem_append_left _ (List.mem_of_getElem? (i := 4) rfl)))))), lb_MO_putNumber⟩
theorem lk_12_231 : x_LV 12 231 mMO_putBit 1 := ⟨x_tb7 (List.mem_of_getElem? (i := 61) rfl), x_tb7 (List.mem_of_getElem? (i := 63) rfl), x_sel (q := (⟨"RowPackerModel", "putBit", "(I)V"⟩, _)) (List.mem_append_right _ (List.mem_append_right _ (List.mem_append_right _ (List.mem_append_right _ (List.mem_append_left _ (List.mem_of_getElem? (i := 5) rfl)))))), lb_MO_putBit⟩
theorem lk_12_319 : x_LV 12 319 mMO_putBlocks 0 := ⟨x_tb7 (List.mem_of_getElem? (i := 65) rfl), x_tb7 (List.mem_of_getElem? (i := 67) rfl), x_sel (q := (⟨"RowPackerModel", "putBlocks", "()V"⟩, _)) (List.mem_append_right _ (List.mem_append_right _ (List.mem_append_right _ (List.mem_append_right _ (List.mem_append_left _ (List.mem_of_getElem? (i := 6) rfl)))))), lb_MO_putBlocks⟩
theorem lk_12_312 : x_LV 12 312 mMO_stretchOf 1 := ⟨x_tb7 (List.mem_of_getElem? (i := 69) rfl), x_tb7 (List.mem_of_getElem? (i := 71) rfl), x_sel (q := (⟨"RowPackerModel", "stretchOf", "(I)I"⟩, _)) (List.mem_append_right _ (List.mem_append_right _ (List.mem_append_right _ (List.mem_append_right _ (List.mem_append_left _ (List.mem_of_getElem? (i := 7) rfl)))))), lb_MO_stretchOf⟩
theorem lk_12_228 : x_LV 12 228 mMO_same 2 := ⟨x_tb7 (List.mem_of_getElem? (i := 73) rfl), x_tb7 (List.mem_of_getElem? (i := 75) rfl), x_sel (q := (⟨"RowPackerModel", "same", "(II)I"⟩, _)) (List.mem_append_right _ (List.mem_append_right _ (List.mem_append_right _ (List.mem_append_right _ (List.mem_append_left _ (List.mem_of_getElem? (i := 8) rfl)))))), lb_MO_same⟩
theorem lk_12_315 : x_LV 12 315 mMO_putBlock 3 := ⟨x_tb7 (List.mem_of_getElem? (i := 77) rfl), x_tb7 (List.mem_of_getElem? (i := 79) rfl), x_sel (q := (⟨"RowPackerModel", "putBlock", "(IIZ)V"⟩, _)) (List.mem_append_right _ (List.mem_append_right _ (List.mem_append_right _ (List.mem_append_right _ (List.mem_append_left _ (List.mem_of_getElem? (i := 9) rfl)))))), lb_MO_putBlock⟩
theorem lk_12_285 : x_LV 12 285 mMO_pieceBits 0 := ⟨x_tb7 (List.mem_of_getElem? (i := 81) rfl), x_tb7 (List.mem_of_getElem? (i := 83) rfl), x_sel (q := (⟨"RowPackerModel", "pieceBits", "()I"⟩, _)) (List.mem_append_right _ (List.mem_append_right _ (List.mem_append_right _ (List.mem_append_right _ (List.mem_append_left _ (List.mem_of_getElem? (i := 10) rfl)))))), lb_MO_pieceBits⟩
theorem lk_12_245 : x_LS 12 245 mMO_lengthSymbol 1 := ⟨x_tb7 (List.mem_of_getElem? (i := 85) rfl), x_tb7 (List.mem_of_getElem? (i := 86) rfl), lb_MO_lengthSymbol⟩
theorem lk_12_248 : x_LS 12 248 mMO_distanceSymbol 1 := ⟨x_tb7 (List.mem_of_getElem? (i := 88) rfl), x_tb7 (List.mem_of_getElem? (i := 89) rfl), lb_MO_distanceSymbol⟩
theorem lk_12_303 : x_LV 12 303 mMO_plan 0 := ⟨x_tb7 (List.mem_of_getElem? (i := 91) rfl), x_tb7 (List.mem_of_getElem? (i := 93) rfl), x_sel (q := (⟨"RowPackerModel", "plan", "()I"⟩, _)) (List.mem_append_right _ (List.mem_append_right _ (List.mem_append_right _ (List.mem_append_right _ (List.mem_append_left _ (List.mem_of_getElem? (i := 11) rfl)))))), lb_MO_plan⟩
theorem lk_12_260 : x_LV 12 260 mMO_weigh 0 := ⟨x_tb7 (List.mem_of_getElem? (i := 95) rfl), x_tb7 (List.mem_of_getElem? (i := 97) rfl), x_sel (q := (⟨"RowPackerModel", "weigh", "()V"⟩, _)) (List.mem_append_right _ (List.mem_append_right _ (List.mem_append_right _ (List.mem_append_right _ (List.mem_append_left _ (List.mem_of_getElem? (i := 12) rfl)))))), lb_MO_weigh⟩
theorem lk_12_263 : x_LV 12 263 mMO_byWeights 3 := ⟨x_tb7 (List.mem_of_getElem? (i := 99) rfl), x_tb7 (List.mem_of_getElem? (i := 101) rfl), x_sel (q := (⟨"RowPackerModel", "byWeights", "(III)V"⟩, _)) (List.mem_append_right _ (List.mem_append_right _ (List.mem_append_right _ (List.mem_append_right _ (List.mem_append_left _ (List.mem_of_getElem? (i := 13) rfl)))))), lb_MO_byWeights⟩
theorem lk_12_234 : x_LS 12 234 mMO_isBefore 4 := ⟨x_tb7 (List.mem_of_getElem? (i := 103) rfl), x_tb7 (List.mem_of_getElem? (i := 104) rfl), lb_MO_isBefore⟩
theorem lk_12_238 : x_LV 12 238 mMO_layRows 3 := ⟨x_tb7 (List.mem_of_getElem? (i := 106) rfl), x_tb7 (List.mem_of_getElem? (i := 108) rfl), x_sel (q := (⟨"RowPackerModel", "layRows", "(III)V"⟩, _)) (List.mem_append_right _ (List.mem_append_right _ (List.mem_append_right _ (List.mem_append_right _ (List.mem_append_left _ (List.mem_of_getElem? (i := 14) rfl)))))), lb_MO_layRows⟩
theorem lk_12_266 : x_LS 12 266 mMO_lastOf 3 := ⟨x_tb7 (List.mem_of_getElem? (i := 110) rfl), x_tb7 (List.mem_of_getElem? (i := 111) rfl), lb_MO_lastOf⟩
theorem lk_12_276 : x_LV 12 276 mMO_tellRow 1 := ⟨x_tb7 (List.mem_of_getElem? (i := 113) rfl), x_tb7 (List.mem_of_getElem? (i := 115) rfl), x_sel (q := (⟨"RowPackerModel", "tellRow", "(I)V"⟩, _)) (List.mem_append_right _ (List.mem_append_right _ (List.mem_append_right _ (List.mem_append_right _ (List.mem_append_left _ (List.mem_of_getElem? (i := 15) rfl)))))), lb_MO_tellRow⟩
theorem lk_12_254 : x_LV 12 254 mMO_run 2 := ⟨x_tb7 (List.mem_of_getElem? (i := 117) rfl), x_tb7 (List.mem_of_getElem? (i := 119) rfl), x_sel (q := (⟨"RowPackerModel", "run", "(II)I"⟩, _)) (List.mem_append_right _ (List.mem_append_right _ (List.mem_append_right _ (List.mem_append_right _ (List.mem_append_right _ (List.mem_of_getElem? (i := 0) rfl)))))), lb_MO_run⟩
theorem lk_12_257 : x_LV 12 257 mMO_tell 2 := ⟨x_tb7 (List.mem_of_getElem? (i := 121) rfl), x_tb7 (List.mem_of_getElem? (i := 123) rfl), x_sel (q := (⟨"RowPackerModel", "tell", "(II)V"⟩, _)) (List.mem_append_right _ (List.mem_append_right _ (List.mem_append_right _ (List.mem_append_right _ (List.mem_append_right _ (List.mem_of_getElem? (i := 1) rfl)))))), lb_MO_tell⟩
theorem lk_12_282 : x_LS 12 282 mMO_toldBits 1 := ⟨x_tb7 (List.mem_of_getElem? (i := 125) rfl), x_tb7 (List.mem_of_getElem? (i := 126) rfl), lb_MO_toldBits⟩
theorem lk_12_306 : x_LV 12 306 mMO_putPlain 2 := ⟨x_tb7 (List.mem_of_getElem? (i := 128) rfl), x_tb7 (List.mem_of_getElem? (i := 130) rfl), x_sel (q := (⟨"RowPackerModel", "putPlain", "(II)V"⟩, _)) (List.mem_append_right _ (List.mem_append_right _ (List.mem_append_right _ (List.mem_append_right _ (List.mem_append_right _ (List.mem_of_getElem? (i := 2) rfl)))))), lb_MO_putPlain⟩
theorem lk_12_297 : x_LV 12 297 mMO_pad 0 := ⟨x_tb7 (List.mem_of_getElem? (i := 132) rfl), x_tb7 (List.mem_of_getElem? (i := 134) rfl), x_sel (q := (⟨"RowPackerModel", "pad", "()V"⟩, _)) (List.mem_append_right _ (List.mem_append_right _ (List.mem_append_right _ (List.mem_append_right _ (List.mem_append_right _ (List.mem_of_getElem? (i := 3) rfl)))))), lb_MO_pad⟩
theorem lk_12_300 : x_LV 12 300 mMO_putPieces 0 := ⟨x_tb7 (List.mem_of_getElem? (i := 136) rfl), x_tb7 (List.mem_of_getElem? (i := 138) rfl), x_sel (q := (⟨"RowPackerModel", "putPieces", "()V"⟩, _)) (List.mem_append_right _ (List.mem_append_right _ (List.mem_append_right _ (List.mem_append_right _ (List.mem_append_right _ (List.mem_of_getElem? (i := 4) rfl)))))), lb_MO_putPieces⟩
theorem lk_12_288 : x_LV 12 288 mMO_makeCodes 2 := ⟨x_tb7 (List.mem_of_getElem? (i := 140) rfl), x_tb7 (List.mem_of_getElem? (i := 142) rfl), x_sel (q := (⟨"RowPackerModel", "makeCodes", "(II)V"⟩, _)) (List.mem_append_right _ (List.mem_append_right _ (List.mem_append_right _ (List.mem_append_right _ (List.mem_append_right _ (List.mem_of_getElem? (i := 5) rfl)))))), lb_MO_makeCodes⟩
theorem lk_12_291 : x_LV 12 291 mMO_putCode 1 := ⟨x_tb7 (List.mem_of_getElem? (i := 144) rfl), x_tb7 (List.mem_of_getElem? (i := 146) rfl), x_sel (q := (⟨"RowPackerModel", "putCode", "(I)V"⟩, _)) (List.mem_append_right _ (List.mem_append_right _ (List.mem_append_right _ (List.mem_append_right _ (List.mem_append_right _ (List.mem_of_getElem? (i := 6) rfl)))))), lb_MO_putCode⟩
theorem lk_12_309 : x_LV 12 309 mMO_putPlanned 0 := ⟨x_tb7 (List.mem_of_getElem? (i := 148) rfl), x_tb7 (List.mem_of_getElem? (i := 150) rfl), x_sel (q := (⟨"RowPackerModel", "putPlanned", "()V"⟩, _)) (List.mem_append_right _ (List.mem_append_right _ (List.mem_append_right _ (List.mem_append_right _ (List.mem_append_right _ (List.mem_of_getElem? (i := 7) rfl)))))), lb_MO_putPlanned⟩
theorem lk_12_322 : x_LV 12 322 mMO_putFour 1 := ⟨x_tb7 (List.mem_of_getElem? (i := 152) rfl), x_tb7 (List.mem_of_getElem? (i := 154) rfl), x_sel (q := (⟨"RowPackerModel", "putFour", "(J)V"⟩, _)) (List.mem_append_right _ (List.mem_append_right _ (List.mem_append_right _ (List.mem_append_right _ (List.mem_append_right _ (List.mem_of_getElem? (i := 8) rfl)))))), lb_MO_putFour⟩
theorem lk_16_85 : x_LV 16 85 mMO_fault 0 := ⟨x_tb7 (List.mem_of_getElem? (i := 156) rfl), x_tb7 (List.mem_of_getElem? (i := 157) rfl), x_tb7 (List.mem_of_getElem? (i := 158) rfl), lb_MO_fault⟩
theorem lk_16_89 : x_LV 16 89 mMO_place 0 := ⟨x_tb7 (List.mem_of_getElem? (i := 160) rfl), x_tb7 (List.mem_of_getElem? (i := 161) rfl), x_tb7 (List.mem_of_getElem? (i := 162) rfl), lb_MO_place⟩
theorem lk_16_93 : x_LV 16 93 mMO_size 0 := ⟨x_tb7 (List.mem_of_getElem? (i := 164) rfl), x_tb7 (List.mem_of_getElem? (i := 165) rfl), x_tb7 (List.mem_of_getElem? (i := 166) rfl), lb_MO_size⟩
theorem lk_16_96 : x_LV 16 96 mMO_out 1 := ⟨x_tb7 (List.mem_of_getElem? (i := 168) rfl), x_tb7 (List.mem_of_getElem? (i := 169) rfl), x_tb7 (List.mem_of_getElem? (i := 170) rfl), lb_MO_out⟩
theorem lk_16_100 : x_LV 16 100 mMO_turn 0 := ⟨x_tb7 (List.mem_of_getElem? (i := 172) rfl), x_tb7 (List.mem_of_getElem? (i := 173) rfl), x_tb7 (List.mem_of_getElem? (i := 174) rfl), lb_MO_turn⟩
theorem lk_16_107 : x_LV 16 107 mMO_blocks 0 := ⟨x_tb7 (List.mem_of_getElem? (i := 176) rfl), x_tb7 (List.mem_of_getElem? (i := 177) rfl), x_tb7 (List.mem_of_getElem? (i := 178) rfl), lb_MO_blocks⟩
theorem lk_16_110 : x_LV 16 110 mMO_block 2 := ⟨x_tb7 (List.mem_of_getElem? (i := 180) rfl), x_tb7 (List.mem_of_getElem? (i := 181) rfl), x_tb7 (List.mem_of_getElem? (i := 182) rfl), lb_MO_block⟩
theorem lk_16_114 : x_LV 16 114 mMO_stretches 0 := ⟨x_tb7 (List.mem_of_getElem? (i := 184) rfl), x_tb7 (List.mem_of_getElem? (i := 185) rfl), x_tb7 (List.mem_of_getElem? (i := 186) rfl), lb_MO_stretches⟩
theorem lo_i : Cond.instanceMethod Lib.objectInit ∈ x_tw := x_tb1 (List.mem_of_getElem? (i := 38) rfl)
theorem lo_c : Cond.code Lib.objectInit ⟨#[0xb1]⟩ 1 none ∈ x_tw := x_tb1 (List.mem_of_getElem? (i := 39) rfl)
end
section
/-- the words of a throw: in the tables, or of the two statics -/
def x_TA (own ic : Nat) (C : String) : Prop := ∀ a ∈ Bundle.ownAtoms0 (x_cn own) ic C ["java/lang/RuntimeException", "java/lang/Exception"], a ∈ x_tw ∨ a = .isRef (.static Bundle.tN "UNASSIGNED_STACK" Bundle.steD) ∨ a = .isRef (.static Bundle.tN "SUPPRESSED_SENTINEL" Bundle.listD) ∨ a = .laysStatic Bundle.tN "UNASSIGNED_STACK" Bundle.steD ∨ a = .laysStatic Bundle.tN "SUPPRESSED_SENTINEL" Bundle.listD
set_option maxRecDepth 100000 in
theorem ta_IS : x_TA 0 59 "java/lang/IllegalStateException" := by unfold x_TA; decide +kernel
set_option maxRecDepth 100000 in
theorem ta_IA : x_TA 0 65 "java/lang/IllegalArgumentException" := by unfold x_TA; decide +kernel
set_option maxRecDepth 100000 in
theorem ta_IO : x_TA 0 72 "java/lang/IndexOutOfBoundsException" := by unfold x_TA; decide +kernel
section XThrow
variable {l : Launch} {x : xX} {d mc ms : Nat} {μ μ' : xM} {n0 : Nat} {Q : xO → xH → Prop} {cl : Bool} {k : Nat} {L : xL} {S st As : List Value} {H : xH} {uc us : Nat}
theorem x_same0 {s U : State} {k n : Nat} (h : s.sameButNew ({ U with vm := s.vm } : State) [] k n) : ∀ q, q < s.heap.size → U.heap[q]? = s.heap[q]? := by
  intro q hq
  obtain ⟨c', h1, h2, h3, h4⟩ := h.2.2.2.2.2 q s.heap[q] (Array.getElem?_eq_getElem hq)
  have hs : c'.slots = (s.heap[q]).slots := by
    apply Array.ext_getElem?
    intro i
    exact h4 i (by simp)
  have h1' : U.heap[q]? = some c' := h1
  rw [h1', h2, hs, Array.getElem?_eq_getElem hq]
set_option maxHeartbeats 1000000 in
theorem xs_throw (hf : l.flags = flags0) {idx ic ci : Nat} {C : String} {T : u_T} (hc0 : μ.2.2.2.2.2[k]? = some (.new idx)) (hc1 : μ.2.2.2.2.2[k + 1]? = some .dup) (hc2 : μ.2.2.2.2.2[k + 2]? = some (.invokespecial ic)) (hc3 : μ.2.2.2.2.2[k + 3]? = some .athrow)
    (hN : x_NC μ.2.2.2.2.1 idx ci 6) (hcl : x_cl[ci]? = some (C, T, 0)) (hC : x_cn ci = C) (hTA : x_TA μ.2.2.2.2.1 ic C) (hfit : Bundle.fit C = true) (hd : 6 ≤ d) (hroom : (S.map (fun v => v.category)).sum ≤ 8) (hhd : x_hd μ.1 = [])
    (hq : Q (.inr H.length) (H ++ [.inr (ci, [])])) : xW l x d 1 6 μ n0 Q true k L S H 0 0 := by
  intro p e s m args below meth c ls Hh locs E R hS hL hn hcn
  obtain ⟨rfl, rfl⟩ := hcn rfl
  have hsz : s.heap.size + 2 = x.1 + H.length := by have := E.2.2.2.2.2.2.2.2.1; omega
  obtain ⟨h1, h2, h3⟩ := hN
  have hK := E.2.2.2.2.2.2.2.2.2.1
  have hKn := hK.1.1 ci _ hcl
  rw [hC] at h1 h2 h3
  have p1 := x_pcS _ _ _ hc0
  have p2 := x_pcS _ _ _ hc1
  have p3 := x_pcS _ _ _ hc2
  have d1 := E.dec hc1
  have d2 := E.dec hc2
  have d3 := E.dec hc3
  rw [p1] at d1
  rw [p2, p1] at d2
  rw [p3, p2, p1] at d3
  refine W.newcK E.1 E.2.1 E.2.2.2.2.1 (E.2.2.2.2.2.1 _ h1) (E.2.2.2.2.2.1 _ h2) (E.2.2.2.2.2.1 _ h3) rfl (E.dec hc0) (Nat.le_refl _) (Nat.le_refl _) hKn.2.1 rfl (fun H1 kC hkC e1 z1 o1 => ?_)
  refine lv_dup E.1 E.2.1 d1 rfl ?_
  intro T hT X
  have hat : ∀ a ∈ Bundle.ownAtoms0 (x_cn μ.2.2.2.2.1) ic C ["java/lang/RuntimeException", "java/lang/Exception"], a.before args s = true := by
    intro a ha
    rcases hTA a ha with h | rfl | rfl | rfl | rfl
    · exact E.2.2.2.2.2.1 _ h
    · exact hK.2.2.2.2.2.2.2.1.isRef
    · exact hK.2.2.2.2.2.2.2.2.1.isRef
    · exact hK.2.2.2.2.2.2.2.1.lays
    · exact hK.2.2.2.2.2.2.2.2.1.lays
  have hnoh : c.exceptionTable.toList = [] := by
    have := E.2.2.2.2.2.2.2.2.2.2.1
    rw [hhd] at this
    exact List.map_eq_nil_iff.mp this
  obtain ⟨U, hst, hrun, hend, hW, hsame, ce, hce, hown⟩ := X.ctorThrow0 (own := x_cn μ.2.2.2.2.1) (cls := C) (names := ["java/lang/RuntimeException", "java/lang/Exception"]) (ic := ic) E.1 (Launch.traces_off hf X.admits) E.2.2.2.2.1 hfit (by decide) hat (fun y hy => by cases hy) hKn.2.1 hkC (a := s.heap.size) (by rw [hT]; exact e1) (Nat.le_refl _)
    (g := F0 m (x_pc μ.2.2.2.2.2 k + 3 + 1) ls (.ref s.heap.size :: .ref s.heap.size :: S.map (x_rv x))) rfl (by rw [E.2.2.2.1]; exact hL.2.1) rfl rfl (rest := S.map (x_rv x)) rfl (by rw [E.2.1]; exact d2) (by rw [E.2.1]; exact d3) (by rw [hnoh]; intro y hy; cases hy) (by show 2 + 3 < d; omega)
    (by
      have hsum : ((Value.ref s.heap.size :: S.map (x_rv x)).map (fun v => v.category)).sum = 1 + (S.map (fun v => v.category)).sum := by rw [List.map_cons, List.sum_cons, x_catS]; rfl
      rw [hsum]
      show 2 * 0 + (1 + _) + (13 * (2 + 1) + 41) ≤ 48 * d
      omega) (hlocks := E.2.2.2.2.2.2.1)
  have ho := x_same0 hsame
  have hce' : ce.cls = x.2.2.2.1.1 ci := Option.some.inj (hown.cls.symm.trans hKn.2.1)
  refine ⟨U, hst, .threw s.heap.size, hrun, hend, .inr H.length, H ++ [.inr (ci, [])], ?_, hq, R.push (cE := .inr (ci, [])) hsz ho ⟨_, hcl, ce, hce, hce', hown.vm, fun j hj => absurd hj (Nat.not_lt_zero j)⟩, by rw [List.length_append, hn]; rfl, ⟨hsame.2.1, fun q h1 _ => ho q h1⟩, [], hW, hsame, fun q hq => by cases hq⟩
  rw [x_out, x_ad_len R.2.2.2 hsz]
end XThrow
end
section
/-! a handler whose class may not be resolved yet -/
theorem fh_cold {E : CtlPost} {e : Env} {d : Bool} {acts : List Action} {s : State} {f : JFrame} {a : Addr} {Q : Handler → Pre} {x : ExceptionTableEntry} {t : List ExceptionTableEntry} {c : ClassId} {cell : Cell} {vm' : Vm}
    (hx : covers x f.pc = true) (h0 : x.catchType ≠ 0) (hg : (Jvm.resolveClass f.method.cls x.catchType).Gives e.toSetting s.vm (.ok c) vm') (hsz : vm'.classes.size ≤ s.vm.classes.size) (hcell : s.heap[a]? = some cell) (hobj : ∀ k, cell.vm ≠ .statics k)
    (hk : ∃ k, vm'.classes[cell.cls]? = some k) (hc : ∃ k, vm'.classes[c]? = some k) :
    wp (findHandler.go f a (x :: t)) Q E e d acts s ↔ if vm'.assignable cell.cls c = true then Q (.found x.handlerPc) d acts (s.setVm vm') else wp (findHandler.go f a t) Q E e d acts (s.setVm vm') := by
  simp only [covers] at hx
  obtain ⟨ha, ht⟩ := hg.op (op := VmOp.resolveClass f.method.cls x.catchType) rfl
  cases hfit : vm'.assignable cell.cls c <;>
    simp [findHandler.go, hx, h0, ha, ht, hsz, hcell, hobj, hk, hc, hfit, VmOp.dirties, VmOp.acts]
def xFinds (e : Env) (s : State) (f : JFrame) (a : Addr) (pc : Nat) (vm' : Vm) : Prop :=
  ∀ (Q : Handler → Pre) (E : CtlPost) (d : Bool) (acts : List Action), wp (findHandler f a) Q E e d acts s ↔ Q (.found pc) d acts (s.setVm vm')
theorem stepThrowing_cold {e : Env} {s : State} {a : Addr} {f : JFrame} {r : List Frame} {pc : Nat} {vm' : Vm} (hfind : xFinds e s f a pc vm') :
    (stepThrowing e s a (.java f :: r)).Is ((s.setVm vm').setFrames (.java { f with pc := pc, stack := [.ref a] } :: r)) [] := by
  simp only [stepThrowing, searchFrame, vmDo]
  generalize hr : Sem.go _ e false [] s = res
  obtain ⟨as, rfl, ha⟩ := Sem.eq_ok_of hr (a := Handler.found pc) (s' := s.setVm vm') (acts' := []) (by simp [hfind _ _ _ _])
  exact ⟨rfl, ha⟩
theorem Steps_caughtCold {tb : Tables} {e : Env} {s target : State} {g : JFrame} {c : Code} {below : List Frame} {a : Addr} {vm' : Vm} (h : At s g.method c below) {pc : Nat} (hfind : xFinds e ((s.setTop g).pushFrame (.throwing a)) g a pc vm')
    (hrest : Steps tb e below ((s.setVm vm').setTop { g with pc := pc, stack := [.ref a] }) target) : Steps tb e below ((s.setTop g).pushFrame (.throwing a)) target := by
  obtain ⟨hgo, hw⟩ := h.throwing a
  refine Steps.head hgo hw ?_
  rw [stepThread_throwing (frames_entered h.top _), (stepThrowing_cold (s := (s.setTop g).pushFrame (.throwing a)) hfind).1]
  obtain ⟨g₀, hg⟩ := Option.isSome_iff_exists.mp h.top
  obtain ⟨r, hr⟩ := State.topJava?_eq_some.mp hg
  have hr' : (s.setVm vm').frames = .java g₀ :: r := hr
  rw [State.setTop_of_frames _ hr'] at hrest
  have e1 : (((s.setTop g).pushFrame (.throwing a)).setVm vm').setFrames (.java { g with pc := pc, stack := [.ref a] } :: s.frames.tail) = (s.setVm vm').setFrames (.java { g with pc := pc, stack := [.ref a] } :: r) := by
    rw [hr]
    show (((s.setTop g).pushFrame (.throwing a)).setFrames (.java { g with pc := pc, stack := [.ref a] } :: r)).setVm vm' = _
    rw [State.pushFrame, State.setFrames_setFrames, State.setTop_of_frames _ hr, State.setFrames_setFrames]
    rfl
  rw [e1]
  exact hrest
section XCatch
variable {p : Program} {l : Launch} {e : Env} {R : Room} {s : State} {m : MethodId} {args : Array Value} {below : List Frame} {meth : Method} {c : Code} {T : State} {locs : List Loc} {cells slots : Nat}
/-- the first handler is of the exception's own class -/
theorem xCatch1 (X : Stand p l e R s m args below meth c T locs cells slots) {g : JFrame} (hg : g.method = m) {own C : String} (hown : s.vm.findClass own = some m.cls) {x : ExceptionTableEntry} {t : List ExceptionTableEntry} (ht : c.exceptionTable.toList = x :: t) (hcov : covers x g.pc = true) (h0 : x.catchType ≠ 0)
    (hlink : (Cond.classLink own x.catchType C).before args s = true) (hcast : (Cond.castable C C).before args s = true) {a : Addr} {cell : Cell} (hcell : T.heap[a]? = some cell) (hobj : cell.vm = .none) (hcls : s.vm.findClass C = some cell.cls) :
    ∃ vm', Stand p l e R s m args below meth c (T.setVm vm') locs cells slots ∧ ∀ target, Steps p.tables e below ((T.setVm vm').setTop { g with pc := x.handlerPc, stack := [.ref a] }) target → Steps p.tables e below ((T.setTop g).pushFrame (.throwing a)) target := by
  subst hg
  have hpl : e.platform.magicAccessors = ({} : Platform).magicAccessors := by rw [X.admits.platform]
  obtain ⟨cc, hfcc, hcl⟩ := Cond.classLink_spec hown hlink e.platform hpl
  have hcc : cc = cell.cls := Option.some.inj (hfcc.symm.trans hcls)
  subst hcc
  obtain ⟨hg₁, hwarm₁, hready₁⟩ := State.classEntry (e := e) X.warmed hcl
  obtain ⟨c0, t0, f1, f2, f3⟩ := Cond.castable_spec hcast
  cases hcls.symm.trans f1
  cases hcls.symm.trans f2
  obtain ⟨kC, hkC⟩ := Vm.classAt_of_findClass hcls
  obtain ⟨k1, hk1, -⟩ := hwarm₁.alike.2.2 _ _ hkC
  refine ⟨_, X.noted hwarm₁, fun target hrest => Steps_caughtCold X.here (fun Q E d acts => ?_) hrest⟩
  rw [W.findHandler_eq (meth := meth) (code := c) (by rw [throwing_vm]; exact X.method') X.code, ht, fh_cold (cell := cell) hcov h0 (by rw [throwing_vm]; exact hg₁) (by rw [throwing_vm]; no_record) (by rw [throwing_heap]; exact hcell) (fun k h => by rw [hobj] at h; cases h) ⟨k1, hk1⟩ ⟨k1, hk1⟩, if_pos (by rw [hwarm₁.alike.assignable]; exact f3)]
/-- the first handler is of another class, the second of the exception's own -/
theorem xCatch2 (X : Stand p l e R s m args below meth c T locs cells slots) {g : JFrame} (hg : g.method = m) {own C C1 : String} (hown : s.vm.findClass own = some m.cls) {x1 x : ExceptionTableEntry} {t : List ExceptionTableEntry} (ht : c.exceptionTable.toList = x1 :: x :: t) (hcov1 : covers x1 g.pc = true) (h01 : x1.catchType ≠ 0) (hcov : covers x g.pc = true) (h0 : x.catchType ≠ 0)
    (hlink1 : (Cond.classLink own x1.catchType C1).before args s = true) (hnc : va_Nc C C1 s) (hlink : (Cond.classLink own x.catchType C).before args s = true) (hcast : (Cond.castable C C).before args s = true) {a : Addr} {cell : Cell} (hcell : T.heap[a]? = some cell) (hobj : cell.vm = .none) (hcls : s.vm.findClass C = some cell.cls) :
    ∃ vm', Stand p l e R s m args below meth c (T.setVm vm') locs cells slots ∧ ∀ target, Steps p.tables e below ((T.setVm vm').setTop { g with pc := x.handlerPc, stack := [.ref a] }) target → Steps p.tables e below ((T.setTop g).pushFrame (.throwing a)) target := by
  subst hg
  have hpl : e.platform.magicAccessors = ({} : Platform).magicAccessors := by rw [X.admits.platform]
  obtain ⟨cc1, hfcc1, hcl1⟩ := Cond.classLink_spec hown hlink1 e.platform hpl
  obtain ⟨cc, hfcc, hcl⟩ := Cond.classLink_spec hown hlink e.platform hpl
  have hcc : cc = cell.cls := Option.some.inj (hfcc.symm.trans hcls)
  subst hcc
  obtain ⟨hg₁, hwarm₁, hready₁⟩ := State.classEntry (e := e) X.warmed hcl1
  have X₁ := X.noted hwarm₁
  obtain ⟨hg₂, hwarm₂, hready₂⟩ := State.classEntry (e := e) X₁.warmed hcl
  obtain ⟨c0, t0, f1, f2, f3⟩ := Cond.castable_spec hcast
  cases hcls.symm.trans f1
  cases hcls.symm.trans f2
  obtain ⟨c5, t5, n1, n2, n3⟩ := hnc
  cases hcls.symm.trans n1
  have ht5 : t5 = cc1 := Option.some.inj (n2.symm.trans hfcc1)
  subst ht5
  obtain ⟨kC, hkC⟩ := Vm.classAt_of_findClass hcls
  obtain ⟨kD, hkD⟩ := Vm.classAt_of_findClass n2
  obtain ⟨k1, hk1, -⟩ := hwarm₁.alike.2.2 _ _ hkC
  obtain ⟨k1', hk1', -⟩ := hwarm₁.alike.2.2 _ _ hkD
  obtain ⟨k2, hk2, -⟩ := hwarm₂.alike.2.2 _ _ hkC
  refine ⟨_, X.noted hwarm₂, fun target hrest => Steps_caughtCold X.here (fun Q E d acts => ?_) hrest⟩
  rw [W.findHandler_eq (meth := meth) (code := c) (by rw [throwing_vm]; exact X.method') X.code, ht, fh_cold (cell := cell) hcov1 h01 (by rw [throwing_vm]; exact hg₁) (by rw [throwing_vm]; no_record) (by rw [throwing_heap]; exact hcell) (fun k h => by rw [hobj] at h; cases h) ⟨k1, hk1⟩ ⟨k1', hk1'⟩, if_neg (by rw [hwarm₁.alike.assignable, n3]; decide),
    fh_cold (s := ((T.setTop g).pushFrame (.throwing a)).setVm (T.vm.noted g.method.cls x1.catchType (.cls t5))) (cell := cell) hcov h0 hg₂ (by show _ ≤ (T.vm.noted _ _ _).classes.size; no_record) (by show ((T.setTop g).pushFrame (.throwing a)).heap[a]? = _; rw [throwing_heap]; exact hcell) (fun k h => by rw [hobj] at h; cases h) ⟨k2, hk2⟩ ⟨k2, hk2⟩, if_pos (by rw [hwarm₂.alike.assignable]; exact f3)]
  rfl
end XCatch
end
section
section XMore
variable {p : Program} {l : Launch} {e : Env} {R : Room} {s : State} {m : MethodId} {args : Array Value} {below : List Frame} {meth : Method} {c : Code} {U : State} {locs : List Loc} {cells slots : Nat}
/-- a call of a method that has a contract: it comes to its end, however -/
theorem x_callAny (X : Stand p l e R s m args below meth c U locs cells slots) {g : JFrame} (hg : g.method = m) (hsize : g.locals.size = c.maxLocals) {ig : Instr} {len : Nat} (hdg : decode c.code g.pc = .ok (ig, len)) {y : MethodName} {mk : MethodId} {methY : Method} {cY : Code} (hn : U.methodNamed? y = some mk) (hmY : U.vm.method? mk = some methY) (hcY : methY.code = some cY) {a0 a : Array Value} (hini : (Cond.initialized y.cls).before a0 U = true)
    {S : Spec} {P : Array Value → State → Prop} {Q : Array Value → State → Outcome → State → Prop} (hM : MetFree l y S P (fun _ _ _ _ _ => True) Q) (hpre : S.pre.before a U = true) (hframes : S.room.frames + 1 ≤ R.frames) (hlocals : 2 * g.monitorRoom + (g.stack.map fun v => v.category).sum + (cY.maxLocals + 11) + S.room.locals ≤ R.locals) (hcells : cells + S.room.cells ≤ R.cells) (hslots : slots + S.room.slots ≤ R.slots) (hP : P a (U.calling g mk a)) :
    ∃ o s₂, Steps p.tables e below (doInvoke e (U.setTop g) [] mk a).1 s₂ ∧ Ended s₂ (.java g :: below) o ∧ Q a (U.calling g mk a) o s₂ := by
  obtain ⟨kY, hkY, -⟩ := className_of_methodNamed hn
  have hinitY : kY.init = .initialized := Cond.initialized_spec (findClass_of_methodNamed hn) hkY hini
  have h : At U g.method c below := by rw [hg]; exact X.here
  have happ := Spec.appliesLoose_calling (g := g) (S := S) h hdg hn hkY hinitY (X.room_calling (g := g) (R' := S.room) (args' := a) hsize hmY hcY hframes hlocals hcells hslots) hpre
  obtain ⟨mid, hmid⟩ := h.above
  have hfr : (U.setTop g).frames = (.java g :: mid) ++ below := by rw [State.frames_setTop' g h.top, hmid]; rfl
  obtain ⟨o, s₂, hsteps, -, hend, hq⟩ := Steps.callFree hM p X.admits X.cas X.clock (acts := []) hfr happ hP trivial
  rw [State.frames_setTop' g h.top, X.tail] at hend
  exact ⟨o, s₂, hsteps, hend, hq⟩
end XMore
section XThrown
variable {l : Launch} {x : xX} {d mc ms : Nat} {μ μ' : xM} {n0 : Nat} {Q : xO → xH → Prop} {cl : Bool} {k : Nat} {L : xL} {S st As : List Value} {H : xH} {uc us : Nat} {idx n r ci d' mc' ms' : Nat} {fs : List Value} {Qt : Nat → xH → Prop}
/-- the handler that takes an exception of the class ei, thrown by the k-th instruction: the first (j = 0) or the second (j = 1); kh: where it begins -/
def x_HD (μ : xM) (k ei kh : Nat) (j : Nat) : Prop := match j with
  | 0 => ∃ (a b h ct : Nat) (t : List (Nat × Nat × Nat × Nat)), x_hd μ.1 = (a, b, h, ct) :: t ∧ a ≤ x_pc μ.2.2.2.2.2 k ∧ x_pc μ.2.2.2.2.2 k < b ∧ ct ≠ 0 ∧ h = x_pc μ.2.2.2.2.2 kh ∧ Cond.classLink (x_cn μ.2.2.2.2.1) ct (x_cn ei) ∈ x_tw ∧ Cond.castable (x_cn ei) (x_cn ei) ∈ x_tw
  | _ => ∃ (a1 b1 h1 ct1 a b h ct e1 : Nat) (t : List (Nat × Nat × Nat × Nat)), x_hd μ.1 = (a1, b1, h1, ct1) :: (a, b, h, ct) :: t ∧ (a1 ≤ x_pc μ.2.2.2.2.2 k ∧ x_pc μ.2.2.2.2.2 k < b1) ∧ (a ≤ x_pc μ.2.2.2.2.2 k ∧ x_pc μ.2.2.2.2.2 k < b) ∧ ct1 ≠ 0 ∧ ct ≠ 0 ∧ h = x_pc μ.2.2.2.2.2 kh ∧ Cond.classLink (x_cn μ.2.2.2.2.1) ct1 (x_cn e1) ∈ x_tw ∧ Cond.classLink (x_cn μ.2.2.2.2.1) ct (x_cn ei) ∈ x_tw ∧ Cond.castable (x_cn ei) (x_cn ei) ∈ x_tw ∧ ((ei = 13 ∧ e1 = 14) ∨ (ei = 14 ∧ e1 = 15))
theorem x_two {α : Type} {f : ExceptionTableEntry → α} {L0 : List ExceptionTableEntry} {y : α} {t : List α} (h : L0.map f = y :: t) : ∃ z t', L0 = z :: t' ∧ f z = y ∧ t'.map f = t := by
  cases L0 with
  | nil => cases h
  | cons z t' =>
    rw [List.map_cons] at h
    injection h with h1 h2
    exact ⟨z, t', rfl, h1, h2⟩
set_option maxHeartbeats 1000000 in
theorem xs_callVT {C : String} {T : u_T} {N : Nat} {ei kh j : Nat} {Ce : String} {Te : u_T} (hc : μ.2.2.2.2.2[k]? = some (.invokevirtual idx)) (hl : x_LV μ.2.2.2.2.1 idx μ' n) (ct : xCt l x d' mc' ms' μ' (.ref r :: As) H (fun o H' => ∃ a, o = .inr a ∧ Qt a H')) (hd : d' + 1 ≤ d) (hh : H[r]? = some (.inr (ci, fs))) (hcl : x_cl[ci]? = some (C, T, N)) (hC : C = μ'.1.cls) (hst : st = As.reverse ++ .ref r :: S) (hn : As.length = n) (hroom : (S.map (fun v => v.category)).sum ≤ 8) (hu : uc + mc' ≤ mc) (hu2 : us + ms' ≤ ms)
    (hex : ∀ a H', Qt a H' → H'[a]? = some (.inr (ei, []))) (hecl : x_cl[ei]? = some (Ce, Te, 0)) (hCe : x_cn ei = Ce) (hhd : x_HD μ k ei kh j)
    (kk : ∀ a H', Qt a H' → xW l x d mc ms μ n0 Q false kh L [.ref a] H' (uc + mc') (us + ms')) : xW l x d mc ms μ n0 Q cl k L st H uc us := by
  intro p e s m args below meth c ls Hh locs E R hS hL hn1 hcn
  subst hC
  refine xW_size (fun hsz => ?_)
  have hs := E.size R hS hn1 hsz
  obtain ⟨l1, l2, l3, lb⟩ := hl
  have hts := E.2.2.2.2.2.1
  obtain ⟨cellB, hcB, hoB, hclB⟩ := va_recv E.2.2.2.2.2.2.2.2.2.1.1 R.1 hcl (xR.at (x := x) (Hh := Hh) hh (R.ge hh))
  intro T0 hT X
  obtain ⟨mk, methM, hnamed, hmethM, hstM, habM⟩ := Cond.instanceMethod_spec (hts _ l2)
  obtain ⟨methM', cM, hmethM', hcodeM, -, hlocM, -, -, -, hsigM⟩ := Cond.code_spec hnamed (hts _ lb.2.1)
  cases hmethM.symm.trans hmethM'
  have hy : μ'.1.cls ≠ "java/lang/invoke/MethodHandle" ∧ μ'.1.cls ≠ "java/lang/invoke/VarHandle" := ⟨lb.2.2.1.1, lb.2.2.1.2.1⟩
  obtain ⟨c2, r2, m2, q1, q2, q3, q4, kP, hkP, hkPi⟩ := Cond.selects_spec (hts _ l3)
  cases hclB.symm.trans q1
  cases (State.methodFound?_of_named hnamed hy).symm.trans q2
  cases hnamed.symm.trans q3
  have hselP : selectMethod e.platform s.vm cellB.cls mk = .method mk := by rw [Launch.admits_selectMethod X.admits]; exact q4
  have hstk : st.map (x_rv x) = (As.map (x_rv x)).reverse ++ .ref (x_ad x r) :: S.map (x_rv x) := by rw [hst, List.map_append, List.map_reverse]; rfl
  obtain ⟨vm₁, X₁, hstep₁⟩ := X.invokevirtual E.1 E.2.2.2.2.1 (hts _ l1) hnamed hmethM hstM hkP hkPi hy (a := x_ad x r) (cell := cellB) (by rw [hT]; exact hcB) (fun z h => by rw [h] at hoB; cases hoB) hselP hmethM habM hkP hkPi (g := F0 m (x_pc μ.2.2.2.2.2 k) ls (st.map (x_rv x))) rfl (argsL := As.map (x_rv x)) (rest := S.map (x_rv x)) (by rw [List.length_map, hn]; exact lb.pn (n1 := 0) _ hsigM) hstk (by rw [E.2.1]; exact E.dec hc)
  have hsum : 2 * (F0 m (x_pc μ.2.2.2.2.2 k) ls (S.map (x_rv x))).monitorRoom + ((F0 m (x_pc μ.2.2.2.2.2 k) ls (S.map (x_rv x))).stack.map fun v => v.category).sum ≤ 8 := lv_room (pc := 0) (ls := ls) (rest := []) (m := m) (by rw [x_catS]; exact hroom)
  obtain ⟨o, s₂, hsteps, hend, r0, H', ho, ⟨a, e0, hqt⟩, hR, hlen, hF, Lc, hW, hsame, hLc⟩ := x_callAny X₁ (g := F0 m (x_pc μ.2.2.2.2.2 k) ls (S.map (x_rv x))) rfl (by rw [E.2.2.2.1]; exact hL.2.1) (ig := .invokevirtual idx) (len := 3) (by rw [E.2.1]; exact E.dec hc) (X₁.named hnamed) (methY := methM) (cY := cM)
    (by have := X₁.warmed.alike.method? mk; exact this.trans hmethM) hcodeM (a0 := args) (a := (Value.ref (x_ad x r) :: As.map (x_rv x)).toArray) (x_gw.warm (a := args) rfl X₁.warmed (hts _ lb.1)) ct
    (atoms_intro (fun w hw => lb.ws E w hw _ _ X₁.warmed)) hd (by have := lb.2.2.2; rw [hlocM]; show _ + _ + (μ'.2.2.1 + 11) + 48 * d' ≤ 48 * d; omega) hu hu2 (xPc.blind _ _ _ _ (xPc.pre (A := .ref r :: As) E R hS hs (T0.setVm vm₁) hT X₁.warmed))
  subst e0
  subst ho
  obtain ⟨T', X', hWT, hsT, e3⟩ := X₁.outOfThrown (g := F0 m (x_pc μ.2.2.2.2.2 k) ls (S.map (x_rv x))) rfl hend hW hsame
  have hT' : T'.heap = s₂.heap := by rw [e3, throwing_heap]
  have hS' : va_S (xA x) s.heap s₂.heap (locs ++ Lc) := by
    have hF1 : Hh.size ≤ s₂.heap.size := by have := hF.1; rw [← hT]; exact this
    refine ⟨Nat.le_trans hS.1 hF1, fun q h1 h2 => ?_, fun q hq => ?_⟩
    · have h3 : s₂.heap[q]? = Hh[q]? := by
        have := hF.2 q (by show q < T0.heap.size; rw [hT]; exact Nat.lt_of_lt_of_le h1 hS.1) h2
        rw [← hT]; exact this
      rw [h3]
      exact hS.2.1 q h1 h2
    · rcases List.mem_append.mp hq with h | h
      · exact hS.2.2 q h
      · exact hLc q h
  have hcellE := hex a H' hqt
  obtain ⟨cellE, hcE, hoE, hclE⟩ : ∃ cell : Cell, s₂.heap[x_ad x a]? = some cell ∧ cell.vm = .none ∧ s.vm.findClass Ce = some cell.cls := by
    obtain ⟨q', h1, cell, g1, g2, g3, -⟩ := hR.1 (a - 2) _ (xR.at (x := x) (Hh := s₂.heap) hcellE (hR.ge hcellE))
    exact ⟨cell, g1, g3, by rw [g2]; exact (E.2.2.2.2.2.2.2.2.2.1.1.1 ei _ hecl).2.1⟩
  have hcatch : ∃ vm', Stand p l e (xrm d mc ms) s m args below meth c (T'.setVm vm') (locs ++ Lc) (uc + mc') (us + ms') ∧ ∀ target, Steps p.tables e below ((T'.setVm vm').setTop (F0 m (x_pc μ.2.2.2.2.2 kh) ls [.ref (x_ad x a)])) target → Steps p.tables e below ((T'.setTop (F0 m (x_pc μ.2.2.2.2.2 k) ls (S.map (x_rv x)))).pushFrame (.throwing (x_ad x a))) target := by
    have htab := E.2.2.2.2.2.2.2.2.2.2.1
    match j, hhd with
    | 0, hhd =>
      obtain ⟨ea, eb, eh, ect, et, y1, y2, y3, y4, y5, y6, y7⟩ := hhd
      rw [y1] at htab
      obtain ⟨z, t', z1, z2, z3⟩ := x_two htab
      injection z2 with w1 w2; injection w2 with w2 w3; injection w3 with w3 w4
      have := xCatch1 X' (g := F0 m (x_pc μ.2.2.2.2.2 k) ls (S.map (x_rv x))) rfl (own := x_cn μ.2.2.2.2.1) (C := Ce) E.2.2.2.2.1 z1 (by simp only [covers, w1, w2]; simp [y2, y3]) (by rw [w4]; exact y4) (by rw [w4, ← hCe]; exact hts _ y6) (by rw [← hCe]; exact hts _ y7) (a := x_ad x a) (cell := cellE) (by rw [hT']; exact hcE) hoE hclE
      rw [w3, y5] at this
      exact this
    | j + 1, hhd =>
      obtain ⟨a1, b1, h1, ct1, ea, eb, eh, ect, e1, et, y1, y2, y3, y4, y5, y6, y7, y8, y9, y10⟩ := hhd
      rw [y1] at htab
      obtain ⟨z, t', z1, z2, z3⟩ := x_two htab
      obtain ⟨z', t'', z1', z2', z3'⟩ := x_two z3
      injection z2 with w1 w2; injection w2 with w2 w3; injection w3 with w3 w4
      injection z2' with v1 v2; injection v2 with v2 v3; injection v3 with v3 v4
      have hnc : va_Nc (x_cn ei) (x_cn e1) s := by
        rcases y10 with ⟨rfl, rfl⟩ | ⟨rfl, rfl⟩
        · exact E.2.2.2.2.2.2.2.2.2.1.2.2.2.2.2.2.2.2.2.1
        · exact E.2.2.2.2.2.2.2.2.2.1.2.2.2.2.2.2.2.2.2.2
      have := xCatch2 X' (g := F0 m (x_pc μ.2.2.2.2.2 k) ls (S.map (x_rv x))) rfl (own := x_cn μ.2.2.2.2.1) (C := Ce) (C1 := x_cn e1) E.2.2.2.2.1 (by rw [z1, z1']) (by simp only [covers, w1, w2]; simp [y2.1, y2.2]) (by rw [w4]; exact y4) (by simp only [covers, v1, v2]; simp [y3.1, y3.2]) (by rw [v4]; exact y5) (by rw [w4]; exact hts _ y7) (by rw [← hCe]; exact hnc) (by rw [v4, ← hCe]; exact hts _ y8) (by rw [← hCe]; exact hts _ y9) (a := x_ad x a) (cell := cellE) (by rw [hT']; exact hcE) hoE hclE
      rw [v3, y6] at this
      exact this
  obtain ⟨vm', X'', hgo⟩ := hcatch
  have w := kk a H' hqt p e s m args below meth c ls s₂.heap (locs ++ Lc) E hR hS' hL (by rw [hlen, hn1]; omega) (fun h => by cases h)
  obtain ⟨t2, a1, b1⟩ := w (T'.setVm vm') hT' X''
  refine ⟨t2, hstep₁ t2 (fun acts => ?_), b1⟩
  rw [doInvoke_state]
  refine hsteps.trans ?_
  rw [e3]
  exact hgo t2 a1
end XThrown
end
section
section XLaw
variable {l : Launch} {x : xX} {d mc ms : Nat} {μ μ' : xM} {n0 : Nat} {Q : xO → xH → Prop} {cl : Bool} {k : Nat} {L : xL} {S st As : List Value} {H : xH} {uc us : Nat} {a : Int32}
theorem xs_tswIn {dflt lo hi off : Int} {offs : Array Int} {k' : Nat} (hc : μ.2.2.2.2.2[k]? = some (.tableswitch dflt lo hi offs)) (h1 : ¬ a.toInt < lo) (h2 : ¬ hi < a.toInt) (ho : offs[(a.toInt - lo).toNat]? = some off) (ht : (x_pc μ.2.2.2.2.2 k : Int) + off = (x_pc μ.2.2.2.2.2 k' : Int)) (kk : xW l x d mc ms μ n0 Q cl k' L S H uc us) : xW l x d mc ms μ n0 Q cl k L (.int a :: S) H uc us :=
  fun p e s m args below meth c ls Hh locs E R hS hL hn hcl => lv_tableIn E.1 E.2.1 (E.dec hc) h1 h2 ho ht (kk p e s m args below meth c ls Hh locs E R hS hL hn hcl)
theorem xs_tswOut {dflt lo hi : Int} {offs : Array Int} {k' : Nat} (hc : μ.2.2.2.2.2[k]? = some (.tableswitch dflt lo hi offs)) (h1 : a.toInt < lo ∨ hi < a.toInt) (ht : (x_pc μ.2.2.2.2.2 k : Int) + dflt = (x_pc μ.2.2.2.2.2 k' : Int)) (kk : xW l x d mc ms μ n0 Q cl k' L S H uc us) : xW l x d mc ms μ n0 Q cl k L (.int a :: S) H uc us :=
  fun p e s m args below meth c ls Hh locs E R hS hL hn hcl => lv_tableOut E.1 E.2.1 (E.dec hc) h1 ht (kk p e s m args below meth c ls Hh locs E R hS hL hn hcl)
/-- System.arraycopy of ints (t = 0) or bytes (t = 1) -/
def x_LA (own idx : Nat) : Prop := Cond.methodLink (x_cn own) idx arraycopyName ∈ x_tw ∧ Cond.native arraycopyName ∈ x_tw ∧ Cond.static arraycopyName ∈ x_tw ∧ Cond.initialized "java/lang/System" ∈ x_tw
theorem xs_copy {idx t r0 r1 m0 m1 : Nat} {f g : Nat → Int32} {sp dp nn : Int32} (hc : μ.2.2.2.2.2[k]? = some (.invokestatic idx)) (hl : x_LA μ.2.2.2.2.1 idx) (ht : t = 0 ∨ t = 1) (h0 : H[r0]? = some (.inl (t, m0, .inl f))) (h1 : H[r1]? = some (.inl (t, m1, .inl g))) (h02 : 2 ≤ r0) (h12 : 2 ≤ r1)
    (p1 : ¬ sp < 0) (p2 : ¬ dp < 0) (p3 : ¬ nn < 0) (p4 : sp.toNatClampNeg + nn.toNatClampNeg ≤ m0) (p5 : dp.toNatClampNeg + nn.toNatClampNeg ≤ m1) (hfit : ∀ i, i < nn.toNatClampNeg → fits (x_at t) (.int (f (sp.toNatClampNeg + i))) = true) (hd : 2 ≤ d) (hroom : (S.map (fun v => v.category)).sum ≤ 8)
    (kk : xW l x d mc ms μ n0 Q false (k + 1) L S (H.set r1 (.inl (t, m1, .inl (va_cpy f g sp.toNatClampNeg dp.toNatClampNeg nn.toNatClampNeg)))) uc us) : xW l x d mc ms μ n0 Q cl k L (.int nn :: .int dp :: .ref r1 :: .int sp :: .ref r0 :: S) H uc us := by
  intro p e s m args below meth c ls Hh locs E R hS hL hn hcl
  obtain ⟨w1, w2, w3, w4⟩ := hl
  have hts := E.2.2.2.2.2.1
  have htys : (x_tysL x)[t]? = some (x.2.2.2.2.1 t, x_at t) := by rcases ht with rfl | rfl <;> rfl
  refine va_copyi (A := xA x) (ty := x_at t) E.1 E.2.1 (by rw [E.2.2.2.1, hL.2.1]) E.2.2.2.2.1 (hts _ w1) (hts _ w2) (hts _ w3) (hts _ w4) E.2.2.2.2.2.2.2.2.2.1.1 R.1 x_wsD hS (r0 - 2) (r1 - 2) t t (xR.at (x := x) (Hh := Hh) h0 h02) (xR.at (x := x) (Hh := Hh) h1 h12) htys htys (by rcases ht with rfl | rfl <;> rfl) p1 p2 p3 p4 p5 hfit (Nat.le_trans (by decide) hd) ?_ (E.dec hc) (fun H1 locs1 hP hD hS1 => ?_)
  · rw [x_catS]
    have hnw : nativeFrameWords "java/lang/System" "arraycopy" 5 + 11 ≤ 80 := by decide
    show _ ≤ 48 * d
    omega
  · have := kk p e s m args below meth c ls H1 locs1 E (R.set h12 hP) hS1 hL (by rw [List.length_set]; exact hn) (fun h => by cases h)
    rw [x_pcS _ _ _ hc] at this
    exact this
/-- the contract of one of the law's own small methods, which have handlers -/
def xCtW (l : Launch) (x : xX) (d mc ms : Nat) (μ : xM) (A : List Value) (H : xH) (Q : Option Value → xH → Prop) : Prop :=
  MetFree l μ.1 (headSpec (Cond.codeWith μ.1 μ.2.1 μ.2.2.1 μ.2.2.2.1 (x_hd μ.1) :: x_tw) (xrm d mc ms)) (xPc x A H) (fun _ _ _ _ _ => True) (fun _ st o t => xEnd x H.length mc ms (fun r H' => ∃ v, r = .inl v ∧ Q v H') st o t)
theorem xCtW.of {A : List Value} {Qr : Option Value → xH → Prop} (hy : plainName μ.1.cls = true) (ho : x_cn μ.2.2.2.2.1 = μ.1.cls) (hck : x_ck μ.2.1 0 μ.2.2.2.2.2 = true) (hl : (x_la A).length ≤ μ.2.2.1)
    (h : xW l x d mc ms μ H.length (fun r H' => ∃ v, r = .inl v ∧ Qr v H') true 0 (x_L0 A μ.2.2.1) [] H 0 0) : xCtW l x d mc ms μ A H Qr := by
  refine MetFree.of_bodyS (code := μ.2.1) (maxLocals := μ.2.2.1) (ret := μ.2.2.2.1) hy ?_ ?_
  · intro args s m hp hn
    obtain ⟨m', meth, c, h0, h1, h2, h3, h4, -, h5, h6, -⟩ := Cond.codeWith_spec (atoms_spec (ws := Cond.codeWith μ.1 μ.2.1 μ.2.2.1 μ.2.2.2.1 (x_hd μ.1) :: x_tw) hp _ List.mem_cons_self)
    cases hn.symm.trans h0
    exact ⟨meth, c, h1, h2, h3, h4, h5, h6⟩
  · intro p e s m args below meth c s₁ B hml hP _
    obtain ⟨rfl, hR, hsz, hK⟩ := hP
    have hh0 : s₁.heap = s.heap := by rw [B.state]; rfl
    have hts := atoms_spec (ws := Cond.codeWith μ.1 μ.2.1 μ.2.2.1 μ.2.2.2.1 (x_hd μ.1) :: x_tw) B.pre
    have hex : c.exceptionTable.toList.map (fun h => (h.startPc, h.endPc, h.handlerPc, h.catchType)) = x_hd μ.1 := by
      obtain ⟨m', meth', c', h0, h1, h2, -, -, h7, -, -, -⟩ := Cond.codeWith_spec (hts _ List.mem_cons_self)
      cases B.named.symm.trans h0
      cases B.method.symm.trans h1
      cases (Stand.of_body B).code.symm.trans h2
      exact h7
    have hE : xE x μ H.length p s m _ meth c := ⟨B.exec, B.bytes, B.returns, hml, by rw [ho]; exact findClass_of_methodNamed B.named, fun w hw => hts w (List.mem_cons_of_mem _ hw), B.notSynchronized, (name_of_methodNamed B.named B.method).1, hsz, hK, hex, hck⟩
    have w := h p e s m _ below meth c _ s.heap [] hE hR va_S.rf (xLv.entry hl) rfl (fun _ => ⟨rfl, rfl⟩)
    rw [show x_pc μ.2.2.2.2.2 0 = 0 by cases μ.2.2.2.2.2 <;> rfl] at w
    have w2 : W p l e (xrm d mc ms) s m ((A.map (x_rv x)).toArray) below meth c s.heap [] 0 0 (xMQ x H.length mc ms (fun r H' => ∃ v, r = .inl v ∧ Qr v H') below s) (entryFrame m (A.map (x_rv x)).toArray μ.2.2.1) := by rw [lg_entry_eq]; exact w
    obtain ⟨t, a1, o, b1, b2, b3⟩ := w2 s₁ hh0 (Stand.of_body B)
    exact ⟨t, o, a1, b1, b2, b3⟩
def x_LSW (own idx : Nat) (μ' : xM) (n : Nat) : Prop := Cond.methodLink (x_cn own) idx μ'.1 ∈ x_tw ∧ Cond.static μ'.1 ∈ x_tw ∧ Cond.initialized μ'.1.cls ∈ x_tw ∧ Cond.codeWith μ'.1 μ'.2.1 μ'.2.2.1 μ'.2.2.2.1 (x_hd μ'.1) ∈ x_tw ∧ (μ'.1.cls ≠ "java/lang/invoke/MethodHandle" ∧ μ'.1.cls ≠ "java/lang/invoke/VarHandle" ∧ (parseMethodDescriptor μ'.1.desc).map (fun d => d.parameters.length) = some n) ∧ μ'.2.2.1 ≤ 29
set_option maxHeartbeats 1000000 in
theorem xs_callSW {idx n d' mc' ms' : Nat} {Qr : Option Value → xH → Prop} (hc : μ.2.2.2.2.2[k]? = some (.invokestatic idx)) (hl : x_LSW μ.2.2.2.2.1 idx μ' n) (ct : xCtW l x d' mc' ms' μ' As H Qr) (hd : d' + 1 ≤ d) (hst : st = As.reverse ++ S) (hn : As.length = n) (hroom : (S.map (fun v => v.category)).sum ≤ 8) (hu : uc + mc' ≤ mc) (hu2 : us + ms' ≤ ms)
    (kk : ∀ v H', Qr v H' → xW l x d mc ms μ n0 Q false (k + 1) L (v.toList ++ S) H' (uc + mc') (us + ms')) : xW l x d mc ms μ n0 Q cl k L st H uc us := by
  intro p e s m args below meth c ls Hh locs E R hS hL hn1 hcn
  refine xW_size (fun hsz => ?_)
  have hs := E.size R hS hn1 hsz
  obtain ⟨l1, l2, l3, l4, ⟨y1, y2, y3⟩, l5⟩ := hl
  have hts := E.2.2.2.2.2.1
  intro T0 hT X
  obtain ⟨mk, methM, cM, hnamed, hmethM, hcodeM, -, hlocM, -, -, -, hsigM⟩ := Cond.codeWith_spec (hts _ l4)
  have hstatic : methM.isStatic = true := Cond.static_spec hnamed hmethM (hts _ l2)
  obtain ⟨kP, hkP, -⟩ := className_of_methodNamed hnamed
  have hinitP : kP.init = .initialized := Cond.initialized_spec (findClass_of_methodNamed hnamed) hkP (hts _ l3)
  have hstk : st.map (x_rv x) = (As.map (x_rv x)).reverse ++ S.map (x_rv x) := by rw [hst, List.map_append, List.map_reverse]
  have hlen : (As.map (x_rv x)).length = methM.sig.parameters.length := by
    rw [List.length_map, hn]
    rw [hsigM] at y3
    exact (Option.some.inj y3).symm
  obtain ⟨vm₁, X₁, hstep₁⟩ := X.invokestatic E.1 E.2.2.2.2.1 (hts _ l1) hnamed hmethM hstatic hkP hinitP ⟨y1, y2⟩ (g := F0 m (x_pc μ.2.2.2.2.2 k) ls (st.map (x_rv x))) rfl (argsL := As.map (x_rv x)) (rest := S.map (x_rv x)) hlen hstk (by rw [E.2.1]; exact E.dec hc)
  have hsum : 2 * (F0 m (x_pc μ.2.2.2.2.2 k) ls (S.map (x_rv x))).monitorRoom + ((F0 m (x_pc μ.2.2.2.2.2 k) ls (S.map (x_rv x))).stack.map fun v => v.category).sum ≤ 8 := lv_room (pc := 0) (ls := ls) (rest := []) (m := m) (by rw [x_catS]; exact hroom)
  obtain ⟨o, s₂, hsteps, hend, r0, H', ho, ⟨v, e0, hqt⟩, hR, hl2, hF, Lc, hW, hsame, hLc⟩ := x_callAny X₁ (g := F0 m (x_pc μ.2.2.2.2.2 k) ls (S.map (x_rv x))) rfl (by rw [E.2.2.2.1]; exact hL.2.1) (ig := .invokestatic idx) (len := 3) (by rw [E.2.1]; exact E.dec hc) (X₁.named hnamed) (methY := methM) (cY := cM)
    (by have := X₁.warmed.alike.method? mk; exact this.trans hmethM) hcodeM (a0 := args) (a := (As.map (x_rv x)).toArray) (x_gw.warm (a := args) rfl X₁.warmed (hts _ l3)) ct
    (atoms_intro (fun w hw => by
      rcases List.mem_cons.mp hw with rfl | hw
      · exact x_gw.warm (a := args) rfl X₁.warmed (hts _ l4)
      · exact x_gw.warm (a := args) (List.mem_filter.mp hw).2 X₁.warmed (hts _ hw))) hd (by rw [hlocM]; show _ + _ + (μ'.2.2.1 + 11) + 48 * d' ≤ 48 * d; omega) hu hu2 (xPc.blind _ _ _ _ (xPc.pre (A := As) E R hS hs (T0.setVm vm₁) hT X₁.warmed))
  subst e0
  subst ho
  obtain ⟨T', X', hWT, hsT, e3⟩ := X₁.outOf (g := F0 m (x_pc μ.2.2.2.2.2 k) ls (S.map (x_rv x))) rfl (ig := .invokestatic idx) (len := 3) (by rw [E.2.1]; exact E.dec hc) hend hW hsame
  have hT' : T'.heap = s₂.heap := by rw [e3]; rfl
  have hS' : va_S (xA x) s.heap s₂.heap (locs ++ Lc) := by
    have hF1 : Hh.size ≤ s₂.heap.size := by have := hF.1; rw [← hT]; exact this
    refine ⟨Nat.le_trans hS.1 hF1, fun q h1 h2 => ?_, fun q hq => ?_⟩
    · have h3 : s₂.heap[q]? = Hh[q]? := by
        have := hF.2 q (by show q < T0.heap.size; rw [hT]; exact Nat.lt_of_lt_of_le h1 hS.1) h2
        rw [← hT]; exact this
      rw [h3]
      exact hS.2.1 q h1 h2
    · rcases List.mem_append.mp hq with h | h
      · exact hS.2.2 q h
      · exact hLc q h
  have w := kk v H' hqt p e s m args below meth c ls s₂.heap (locs ++ Lc) E hR hS' hL (by rw [hl2, hn1]; omega) (fun h => by cases h)
  rw [x_pcS _ _ _ hc, List.map_append, show (v.toList).map (x_rv x) = (v.map (x_rv x)).toList by cases v <;> rfl] at w
  obtain ⟨t2, a1, b1⟩ := w T' hT' X'
  refine ⟨t2, hstep₁ t2 (fun acts => ?_), b1⟩
  rw [doInvoke_state]
  refine hsteps.trans ?_
  rw [e3]
  exact a1
end XLaw
end
section
theorem x_inst : ∀ (ci : Nat) (q : vw_C), x_cl[ci]? = some q → ∃ n, Cond.instantiable q.1 n ∈ x_tw
  | 0, q, h => by cases h; exact ⟨_, x_tb1 (List.mem_of_getElem? (i := 33) rfl)⟩
  | 1, q, h => by cases h; exact ⟨_, x_tb1 (List.mem_of_getElem? (i := 238) rfl)⟩
  | 2, q, h => by cases h; exact ⟨_, x_tb1 (List.mem_of_getElem? (i := 207) rfl)⟩
  | 3, q, h => by cases h; exact ⟨_, x_tb1 (List.mem_of_getElem? (i := 134) rfl)⟩
  | 4, q, h => by cases h; exact ⟨_, x_tb1 (List.mem_of_getElem? (i := 108) rfl)⟩
  | 5, q, h => by cases h; exact ⟨_, x_tb2 (List.mem_of_getElem? (i := 83) rfl)⟩
  | 6, q, h => by cases h; exact ⟨_, x_tb1 (List.mem_of_getElem? (i := 65) rfl)⟩
  | 7, q, h => by cases h; exact ⟨_, x_tb1 (List.mem_of_getElem? (i := 41) rfl)⟩
  | 8, q, h => by cases h; exact ⟨_, x_tb1 (List.mem_of_getElem? (i := 97) rfl)⟩
  | 9, q, h => by cases h; exact ⟨_, x_tb2 (List.mem_of_getElem? (i := 77) rfl)⟩
  | 10, q, h => by cases h; exact ⟨_, x_tb1 (List.mem_of_getElem? (i := 142) rfl)⟩
  | 11, q, h => by cases h; exact ⟨_, x_tb1 (List.mem_of_getElem? (i := 114) rfl)⟩
  | 12, q, h => by cases h; exact ⟨_, x_tb6 (List.mem_of_getElem? (i := 20) rfl)⟩
  | 13, q, h => by cases h; exact ⟨_, x_tb2 (List.mem_of_getElem? (i := 199) rfl)⟩
  | 14, q, h => by cases h; exact ⟨_, x_tb3 (List.mem_of_getElem? (i := 40) rfl)⟩
  | 15, q, h => by cases h; exact ⟨_, x_tb3 (List.mem_of_getElem? (i := 74) rfl)⟩
  | k + 16, q, h => by simp [x_cl] at h
theorem aw_int : Cond.arrayClass .int ∈ x_tw := x_tb1 (List.mem_of_getElem? (i := 95) rfl)
theorem aw_byte : Cond.arrayClass .byte ∈ x_tw := x_tb1 (List.mem_of_getElem? (i := 62) rfl)
theorem aw_long : Cond.arrayClass .long ∈ x_tw := x_tb6 (List.mem_of_getElem? (i := 130) rfl)
theorem aw_boolean : Cond.arrayClass .boolean ∈ x_tw := x_tb1 (List.mem_of_getElem? (i := 166) rfl)
theorem ls_ord : Cond.laysStatic "RowPacker" "ORDER_OF_LENGTHS" "[I" ∈ lw_tbl := List.mem_append_right _ (show _ ∈ tables_1_1 ++ (tables_1_2 ++ (tables_1_3 ++ (tables_1_4 ++ (tables_1_5 ++ (tables_1_6 ++ tables_1_7))))) from List.mem_append_right _ (List.mem_append_right _ (List.mem_append_left _ (List.mem_of_getElem? (i := 233) rfl))))
theorem ls_una : Cond.laysStatic "java/lang/Throwable" "UNASSIGNED_STACK" "[Ljava/lang/StackTraceElement;" ∈ lw_tbl := List.mem_append_right _ (show _ ∈ tables_1_1 ++ (tables_1_2 ++ (tables_1_3 ++ (tables_1_4 ++ (tables_1_5 ++ (tables_1_6 ++ tables_1_7))))) from List.mem_append_right _ (List.mem_append_left _ (List.mem_of_getElem? (i := 225) rfl)))
theorem ls_sup : Cond.laysStatic "java/lang/Throwable" "SUPPRESSED_SENTINEL" "Ljava/util/List;" ∈ lw_tbl := List.mem_append_right _ (show _ ∈ tables_1_1 ++ (tables_1_2 ++ (tables_1_3 ++ (tables_1_4 ++ (tables_1_5 ++ (tables_1_6 ++ tables_1_7))))) from List.mem_append_right _ (List.mem_append_left _ (List.mem_of_getElem? (i := 227) rfl)))
theorem in_RP : Cond.initialized "RowPacker" ∈ x_tw := x_tb1 (List.mem_of_getElem? (i := 1) rfl)
def R_law : String := "RowPackerLaw"
def lw_P (b : Addr) (xs : List Int32) (args : Array Value) (s : State) : Prop := args = #[.ref b] ∧ s.IntsAt b xs ∧ xs.length ≤ 3072 ∧ (Jvm.Cond.and given_1 narrow_1).before args s = true
def lw_Q (_ : Array Value) (s : State) (o : Outcome) (t : State) : Prop := o = .returned (some (.int 1)) ∧ Framed s o t [] 601024 7293034
def lw_Z (below : List Frame) (a : Array Value) (s : State) : State → Prop := fun t => ∃ o, t.status = .running ∧ Ended t below o ∧ lw_Q a s o t
/-- the law's start -/
def lw_At (p : Program) (s : State) (m : MethodId) (meth : Method) (c : Code) (b L : Nat) (xs : Nat → Int32) : Prop :=
  p.tables.exec = Jvm.exec ∧ c.code = code ∧ meth.sig.returnType = ret ∧ c.maxLocals = 8 ∧ s.vm.findClass R_law = some m.cls ∧ (∀ w ∈ lw_tbl, w.before #[Value.ref b] s = true) ∧ va_X b L xs s s.heap ∧ b < s.heap.size ∧ meth.locks = false ∧ (Jvm.Cond.and given_1 narrow_1).before #[Value.ref b] s = true ∧ meth.name = "law" ∧ c.exceptionTable.isEmpty = true
/-- the heap at the law's start -/
abbrev x_H0 (L : Nat) (xs : Nat → Int32) : xH := [.inl (0, L, .inl xs), .inl (0, 19, .inl x_ord)]
/-- WHAT IS LEFT: the law over the list heap -/
def x_main : Prop := ∀ (l : Launch), l.flags = flags0 → ∀ (x : xX), x.2.2.2.2.2.1 ≤ 3072 → ∃ mc, mc ≤ 601024 ∧ xW l x 1750 mc 7293034 mLA_law 2 (fun r _ => r = .inl (some (.int 1))) true 0 (x_L0 [.ref 0] 8) [] (x_H0 x.2.2.2.2.2.1 x.2.2.2.2.2.2) 0 0
theorem x_room {p : Program} {l : Launch} {e : Env} {R R' : Room} {s : State} {m : MethodId} {args : Array Value} {below : List Frame} {meth : Method} {c : Code} {H : Heap} {locs : List Loc} {cells slots : Nat} {Q : State → Prop} {g : JFrame} (h1 : R'.frames ≤ R.frames) (h2 : R'.cells ≤ R.cells) (h3 : R'.slots ≤ R.slots) (h4 : R'.locals ≤ R.locals) (w : W p l e R' s m args below meth c H locs cells slots Q g) : W p l e R s m args below meth c H locs cells slots Q g := by
  intro T hT X
  refine w T hT { X with room := ?_ }
  have hr := X.room
  simp only [State.hasRoom, Bool.and_eq_true, decide_eq_true_eq] at hr ⊢
  obtain ⟨⟨⟨⟨a1, a2, a3, a4, a5, a6⟩, a7⟩, a8⟩, a9⟩ := hr
  exact ⟨⟨⟨⟨by omega, by omega, by omega, by omega, by omega, a6⟩, by omega⟩, by omega⟩, a9⟩
theorem x_forgetL {s t : State} {L : List Loc} {k n : Nat} (h : s.sameButNew t L k n) (hL : ∀ q ∈ L, s.heap.size ≤ q.base) : s.sameButNew t [] k n := by
  obtain ⟨a1, a2, a3, a4, a5, a6⟩ := h
  refine ⟨a1, a2, a3, a4, a5, fun a c hc => ?_⟩
  obtain ⟨c', b1, b2, b3, b4⟩ := a6 a c hc
  refine ⟨c', b1, b2, b3, fun i _ => b4 i (fun hm => ?_)⟩
  have h1 := hL _ hm
  have h2 : a < s.heap.size := (Array.getElem?_eq_some_iff.mp hc).1
  exact absurd h2 (Nat.not_lt.mpr h1)
theorem x_arrA {s : State} {args : Array Value} (hts : ∀ w ∈ x_tw, w.before args s = true) : ∃ cA : Nat → Nat, ∀ (k : Nat) (q : ClassId × FieldType), ([(cA 0, .int), (cA 1, .byte), (cA 2, .long), (cA 3, .boolean)] : List (ClassId × FieldType))[k]? = some q → ArrOfT s q.1 q.2 ∧ va_RA s q.1 q.2 := by
  obtain ⟨c0, k0, m0, a0, b0, d0⟩ := Cond.arrayClass_spec (hts _ aw_int)
  obtain ⟨c1, k1, m1, a1, b1, d1⟩ := Cond.arrayClass_spec (hts _ aw_byte)
  obtain ⟨c2, k2, m2, a2, b2, d2⟩ := Cond.arrayClass_spec (hts _ aw_long)
  obtain ⟨c3, k3, m3, a3, b3, d3⟩ := Cond.arrayClass_spec (hts _ aw_boolean)
  refine ⟨fun k => match k with | 0 => c0 | 1 => c1 | 2 => c2 | _ => c3, fun k q hk => ?_⟩
  match k, hk with
  | 0, hk => cases hk; exact ⟨fun n z => ⟨fun k h => (by cases h), k0, b0, m0, d0⟩, a0⟩
  | 1, hk => cases hk; exact ⟨fun n z => ⟨fun k h => (by cases h), k1, b1, m1, d1⟩, a1⟩
  | 2, hk => cases hk; exact ⟨fun n z => ⟨fun k h => (by cases h), k2, b2, m2, d2⟩, a2⟩
  | 3, hk => cases hk; exact ⟨fun n z => ⟨fun k h => (by cases h), k3, b3, m3, d3⟩, a3⟩
  | k + 4, hk => simp at hk
set_option maxHeartbeats 2000000 in
set_option maxRecDepth 100000 in
theorem whole_start (hmain : x_main) {p : Program} {e : Env} {s : State} {m : MethodId} {below : List Frame} {meth : Method} {c : Code} (l : Launch) (hf : l.flags = flags0) {b L : Nat} {xs : Nat → Int32} (hL : L ≤ 3072) (C0 : lw_At p s m meth c b L xs) : W p l e room_1 s m #[Value.ref b] below meth c s.heap [] 0 0 (lw_Z below #[Value.ref b] s) (entryFrame m ([Value.ref b] : List Value).toArray 8) := by
  obtain ⟨hx, hb, hr, hml, hown, hts0, hX, hbl, hlk, hgv, hnm, hex⟩ := C0
  have hts : ∀ w ∈ x_tw, w.before #[Value.ref b] s = true := fun w hw => hts0 w (List.mem_filter.mp hw).1
  have hfl := flat_of_before _ hgv
  have hA : ∀ a : Nat, a < s.heap.size → ¬ (fun q => s.heap.size ≤ q) a := fun a h => Nat.not_le.mpr h
  obtain ⟨cA, hcA⟩ := x_arrA hts
  obtain ⟨D, hD⟩ : ∃ f : Nat → ClassId × (Nat → Nat), ∀ c, ∀ q, x_cl[c]? = some q → u_Kn s q.1 q.2.1 q.2.2 (f c).1 (f c).2 := by
    refine (Classical.skolem (p := fun (c : Nat) (y : ClassId × (Nat → Nat)) => ∀ q, x_cl[c]? = some q → u_Kn s q.1 q.2.1 q.2.2 y.1 y.2)).mp (fun c => ?_)
    cases hq : x_cl[c]? with
    | none => exact ⟨(0, fun _ => 0), fun q h => by cases h⟩
    | some q =>
      obtain ⟨n, hn⟩ := x_inst c q hq
      obtain ⟨cC, iS, hk⟩ := u_known (n := n) hts (x_okc_all c q hq).1 (hts _ hn)
      exact ⟨(cC, iS), fun q' h => by cases h; exact hk⟩
  obtain ⟨oA, hoe, hoT⟩ := va_Tof (A := fun q => s.heap.size ≤ q) (f := fun j => .int (x_ord j)) (N := 19) (tm := .static "RowPacker" "ORDER_OF_LENGTHS" "[I") (by decide) (hfl (.arrayOf (.static "RowPacker" "ORDER_OF_LENGTHS" "[I") .int) (by decide +kernel)) (va_eqt (hfl (.eq (.length (.static "RowPacker" "ORDER_OF_LENGTHS" "[I")) (.int 19)) (by decide +kernel)))
    (fun j hj => by
      match j, hj with
      | 0, _ => exact va_eqt (hfl (.eq (.elem (.static "RowPacker" "ORDER_OF_LENGTHS" "[I") (.int 0)) (.int 16)) (by decide +kernel))
      | 1, _ => exact va_eqt (hfl (.eq (.elem (.static "RowPacker" "ORDER_OF_LENGTHS" "[I") (.int 1)) (.int 17)) (by decide +kernel))
      | 2, _ => exact va_eqt (hfl (.eq (.elem (.static "RowPacker" "ORDER_OF_LENGTHS" "[I") (.int 2)) (.int 18)) (by decide +kernel))
      | 3, _ => exact va_eqt (hfl (.eq (.elem (.static "RowPacker" "ORDER_OF_LENGTHS" "[I") (.int 3)) (.int 0)) (by decide +kernel))
      | 4, _ => exact va_eqt (hfl (.eq (.elem (.static "RowPacker" "ORDER_OF_LENGTHS" "[I") (.int 4)) (.int 8)) (by decide +kernel))
      | 5, _ => exact va_eqt (hfl (.eq (.elem (.static "RowPacker" "ORDER_OF_LENGTHS" "[I") (.int 5)) (.int 7)) (by decide +kernel))
      | 6, _ => exact va_eqt (hfl (.eq (.elem (.static "RowPacker" "ORDER_OF_LENGTHS" "[I") (.int 6)) (.int 9)) (by decide +kernel))
      | 7, _ => exact va_eqt (hfl (.eq (.elem (.static "RowPacker" "ORDER_OF_LENGTHS" "[I") (.int 7)) (.int 6)) (by decide +kernel))
      | 8, _ => exact va_eqt (hfl (.eq (.elem (.static "RowPacker" "ORDER_OF_LENGTHS" "[I") (.int 8)) (.int 10)) (by decide +kernel))
      | 9, _ => exact va_eqt (hfl (.eq (.elem (.static "RowPacker" "ORDER_OF_LENGTHS" "[I") (.int 9)) (.int 5)) (by decide +kernel))
      | 10, _ => exact va_eqt (hfl (.eq (.elem (.static "RowPacker" "ORDER_OF_LENGTHS" "[I") (.int 10)) (.int 11)) (by decide +kernel))
      | 11, _ => exact va_eqt (hfl (.eq (.elem (.static "RowPacker" "ORDER_OF_LENGTHS" "[I") (.int 11)) (.int 4)) (by decide +kernel))
      | 12, _ => exact va_eqt (hfl (.eq (.elem (.static "RowPacker" "ORDER_OF_LENGTHS" "[I") (.int 12)) (.int 12)) (by decide +kernel))
      | 13, _ => exact va_eqt (hfl (.eq (.elem (.static "RowPacker" "ORDER_OF_LENGTHS" "[I") (.int 13)) (.int 3)) (by decide +kernel))
      | 14, _ => exact va_eqt (hfl (.eq (.elem (.static "RowPacker" "ORDER_OF_LENGTHS" "[I") (.int 14)) (.int 13)) (by decide +kernel))
      | 15, _ => exact va_eqt (hfl (.eq (.elem (.static "RowPacker" "ORDER_OF_LENGTHS" "[I") (.int 15)) (.int 2)) (by decide +kernel))
      | 16, _ => exact va_eqt (hfl (.eq (.elem (.static "RowPacker" "ORDER_OF_LENGTHS" "[I") (.int 16)) (.int 14)) (by decide +kernel))
      | 17, _ => exact va_eqt (hfl (.eq (.elem (.static "RowPacker" "ORDER_OF_LENGTHS" "[I") (.int 17)) (.int 1)) (by decide +kernel))
      | 18, _ => exact va_eqt (hfl (.eq (.elem (.static "RowPacker" "ORDER_OF_LENGTHS" "[I") (.int 18)) (.int 15)) (by decide +kernel))
      | j + 19, h => omega) hA
  have hol : oA < s.heap.size := by obtain ⟨cell, h1, -⟩ := hoT; exact (Array.getElem?_eq_some_iff.mp h1).1
  have hZ := va_Zof (A := fun q => s.heap.size ≤ q) (hts0 _ ls_ord) (hts _ in_RP) hoe hA
  have hU := xSt.of (A := fun q => s.heap.size ≤ q) (hts0 _ ls_una) (hfl (.isRef (.static "java/lang/Throwable" "UNASSIGNED_STACK" "[Ljava/lang/StackTraceElement;")) (by decide +kernel)) hA
  have hSu := xSt.of (A := fun q => s.heap.size ≤ q) (hts0 _ ls_sup) (hfl (.isRef (.static "java/lang/Throwable" "SUPPRESSED_SENTINEL" "Ljava/util/List;")) (by decide +kernel)) hA
  have hn1 := va_Nc.of (hfl (.not (.castable "java/lang/IllegalStateException" "java/lang/IllegalArgumentException")) (by decide +kernel))
  have hn2 := va_Nc.of (hfl (.not (.castable "java/lang/IllegalArgumentException" "java/lang/IndexOutOfBoundsException")) (by decide +kernel))
  obtain ⟨mc, hmc, w⟩ := hmain l hf (s.heap.size, b, oA, (fun c => (D c).1, fun c => (D c).2), cA, L, xs) hL
  have hK : xK (s.heap.size, b, oA, (fun c => (D c).1, fun c => (D c).2), cA, L, xs) s s.heap := ⟨⟨hD, hcA⟩, hX, hoT, hbl, hol, Nat.le_refl _, hZ, hU, hSu, hn1, hn2⟩
  have hE : xE (s.heap.size, b, oA, (fun c => (D c).1, fun c => (D c).2), cA, L, xs) mLA_law 2 p s m #[Value.ref b] meth c := ⟨hx, hb, hr, hml, hown, hts, hlk, hnm, rfl, hK, by rw [Array.isEmpty_iff.mp hex]; rfl, ck_LA_law⟩
  have hR : xR (s.heap.size, b, oA, (fun c => (D c).1, fun c => (D c).2), cA, L, xs) (x_H0 L xs) s.heap := ⟨fun k q hq => by simp [x_ws] at hq, rfl, rfl, Nat.le_refl 2⟩
  have w1 := w p e s m #[Value.ref b] below meth c _ s.heap [] hE hR va_S.rf (xLv.entry (A := [.ref 0]) (nL := 8) (by decide)) rfl (fun _ => ⟨rfl, rfl⟩)
  refine x_room (R' := xrm 1750 mc 7293034) (show 1750 ≤ 2048 by decide) hmc (Nat.le_refl _) (show 48 * 1750 ≤ 84000 by decide) ?_
  rw [lg_entry_eq]
  refine xW_mono (fun t ht => ?_) w1
  obtain ⟨o, a1, a2, r, H', a3, a4, a5, a6, a7, L', a8, a9, a10⟩ := ht
  subst a4
  refine ⟨o, a1, a2, a3, ⟨_, a3⟩, a8, x_forgetL ⟨a9.1, a9.2.1, ?_, a9.2.2.2.1, a9.2.2.2.2.1, a9.2.2.2.2.2⟩ a10⟩
  exact Nat.le_trans a9.2.2.1 (Nat.add_le_add_left hmc _)
set_option maxHeartbeats 4000000 in
theorem lw_walk (hmain : x_main) (l : Launch) (hf : l.flags = flags0) (b : Addr) (xs : List Int32) : MetFree l x (headSpec (Jvm.Cond.code x code maxLocals ret :: tables_1) room_1) (lw_P b xs) (fun _ _ _ _ _ => True) lw_Q := by
  refine MetFree.of_bodyS (code := code) (maxLocals := maxLocals) (ret := ret) (by decide) ?_ ?_
  · intro args s m h hn
    obtain ⟨meth, c, h1, h2, h3, h4, h5, h6, -, -⟩ := Cond.code_spec hn (atoms_spec (ws := Jvm.Cond.code x code maxLocals ret :: tables_1) h _ List.mem_cons_self)
    exact ⟨meth, c, h1, h2, h3, h4, h5, h6⟩
  · intro p e s m args below meth c s₁ B hml0 hP _
    obtain ⟨rfl, hx, hbd, hgv⟩ := hP
    obtain ⟨scr, harrAt, hlist, hof, hsmall⟩ := hx
    obtain ⟨hcb, hkn, -, -⟩ := State.arrayAt?_spec harrAt
    have hown : s.vm.findClass R_law = some m.cls := findClass_of_methodNamed B.named
    have hts0 : ∀ c ∈ (Jvm.Cond.code x code maxLocals ret :: tables_1), c.before #[Value.ref b] s = true := atoms_spec (ws := Jvm.Cond.code x code maxLocals ret :: tables_1) B.pre
    have hts : ∀ w ∈ lw_tbl, w.before #[Value.ref b] s = true := k2_hts_sels lw_privs (fun w hw => hts0 w (List.mem_cons_of_mem _ hw)) lw_privs_ok
    have hml : c.maxLocals = 8 := B.maxLocals_eq (hts0 _ List.mem_cons_self)
    have X₀ : Stand p l e room_1 s m #[Value.ref b] below meth c s₁ [] 0 0 := Stand.of_body B
    have hh0 : s₁.heap = s.heap := by rw [B.state]; rfl
    have hsz : scr.slots.size = xs.length := by rw [← Array.length_toList, hlist, List.length_map]
    have hval : ∀ j : Nat, j < xs.length → scr.slots[j]? = some (.int (xs.getD j 0)) := fun j hj => by
      rw [← Array.getElem?_toList, hlist]
      simp [hj]
    have hbl : b < s.heap.size := (Array.getElem?_eq_some_iff.mp hcb).1
    have hX : va_X b xs.length (fun j => xs.getD j 0) s s.heap := ⟨scr, hcb, hof, hkn, hsz, hval⟩
    have K : W p l e room_1 s m #[Value.ref b] below meth c s₁.heap [] 0 0 (lw_Z below #[Value.ref b] s) (entryFrame m ([Value.ref b] : List Value).toArray 8) := by
      rw [hh0]
      exact whole_start hmain l hf hbd ⟨B.exec, B.bytes, B.returns, hml, hown, hts, hX, hbl, B.notSynchronized, hgv, (name_of_methodNamed B.named B.method).1, B.noHandlers (hts0 _ List.mem_cons_self)⟩
    obtain ⟨t, a1, o, b1, b2, b3⟩ := K s₁ rfl X₀
    exact ⟨t, o, a1, b1, b2, b3⟩
theorem lw_pre_spec {args : Array Value} {s : State} (h : (Jvm.Cond.and given_1 narrow_1).before args s = true) (hr : rest_1_c.before args s = true) : ∃ (b : Addr) (xs : List Int32), lw_P b xs args s := by
  have hs := flat_of_before _ h
  have hq := flat_of_before _ hr
  have hc : (Cond.count 1).before args s = true := hs _ (by decide +kernel)
  have harr : (Cond.arrayOf (.arg 0) .int).before args s = true := hs _ (by decide +kernel)
  have hle : (Cond.le (.length (.arg 0)) (.int 3072)).before args s = true := hs _ (by decide +kernel)
  have hlen : (Cond.isInt (.length (.arg 0))).before args s = true := hq _ (by decide +kernel)
  have hall : (Cond.all (.arg 0) (.isInt (.elem (.arg 0) (.index 0)))).before args s = true := hq _ (by decide +kernel)
  obtain ⟨b, xs, hb, hx⟩ := State.ints_of_pre rfl harr hlen hall
  have hsm : xs.length < 2 ^ 31 := hx.choose_spec.2.2.2
  have hev : (Term.length (.arg 0)).eval args s none [] s = some (.int xs.length.toInt32) := hx.length_eval hb
  have hv := Cond.le_ints hev (show (Term.int 3072).eval args s none [] s = some (.int 3072) from rfl)
  have hd : xs.length.toInt32 ≤ 3072 := by
    simpa [Cond.before, Cond.holds, hv] using hle
  have hN : xs.length ≤ 3072 := (Int32.ofNat_le_ofNat hsm (by decide)).mp (show Int32.ofNat xs.length ≤ Int32.ofNat 3072 from hd)
  exact ⟨b, xs, Cond.one_arg hc (show args[0]? = some (.ref b) from hb), hx, hN, h⟩
theorem lw_comes (hmain : x_main) (l : Launch) (hf : l.flags = flags0) : Comes l x (Jvm.Cond.code x code maxLocals ret :: tables_1) room_1 (fun tb e args s => Calls_1 tb e args s ∧ rest_1 tb e args s ∧ Pre_1 tb e args s)
    (fun _ _ args s o t => lw_Q args s o t) := by
  intro p e ha hc hk s m args below hf2 hfit hheap happ hpre
  obtain ⟨b, xs, hP⟩ := lw_pre_spec hpre.2.2 hpre.2.1
  obtain ⟨k, o, h1, h2, h3, hQ⟩ := lw_walk hmain l hf b xs p e ha hc hk s m args below hf2 ((Spec.applies_iff_loose hf2).mp happ).1 hP trivial
  exact ⟨k, o, h1, h2, h3, hQ⟩
theorem lw_frame {s t : State} {o : Outcome} {args : Array Value} (h : Framed s o t [] 601024 7293034) :
    Framed s o t (fieldLocs frame_1_writes args s ++ arrayLocs frame_1_arrays args s ++ staticLocs frame_1_statics s) 601024 7293034 := h
theorem lw_limb (hmain : x_main) (L : Cond) (hL : ∀ (args : Array Value) (s t : State), L.after args s (.returned (some (.int 1))) t = true) :
    ArmFor flags0 classFile x code maxLocals ret World_1 tables_1 room_1 Calls_1 rest_1 Pre_1
      (fun tb e a s o t => postC L tb e a s o t ∧ Framed s o t (fieldLocs frame_1_writes a s ++ arrayLocs frame_1_arrays a s ++ staticLocs frame_1_statics s) 601024 7293034) := by
  intro l hfl _ _ p e ha hc hk s m args below hf hfit hheap happ hpre
  obtain ⟨k, o, h1, h2, h3, rfl, hF⟩ := lw_comes hmain l hfl p e ha hc hk s m args below hf hfit hheap happ hpre
  exact ⟨k, _, h1, h2, h3, hL args s _, lw_frame hF⟩
/-- the claim, once the law is walked over the list heap -/
theorem i_vc_of (hmain : x_main) : Claimed_1_1 ∧ Claimed_1_2 := ⟨lw_limb hmain limb_1_1 (fun args s t => by simp [limb_1_1, Cond.after, Cond.holds, Cond.value]), lw_limb hmain limb_1_2 (fun args s t => Cond.after_iff.mpr (by
  first | (rw [show limb_1_2 = Cond.eq .result (.int 1) from rfl, Cond.eq_ints (x := 1) (y := 1) rfl rfl]; simp; done) | (simp [limb_1_2, Cond.value, Term.eval]; done)))⟩
end
