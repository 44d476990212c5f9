theorem x_sel {q : MethodName × Nat} (h : q ∈ lw_privs) : Cond.selects q.1.cls q.1 q.1 ∈ x_tw := List.mem_filter.mpr ⟨List.mem_append_left _ (List.mem_map.mpr ⟨q, h, rfl⟩), rfl⟩
theorem lb_RP_init : x_LB mRP_init 0 := ⟨x_tb1 (List.mem_of_getElem? (i := 1) rfl), x_tb1 (List.mem_of_getElem? (i := 36) rfl), by decide +kernel, by decide⟩
theorem lb_RO_init : x_LB mRO_init 1 := ⟨x_tb1 (List.mem_of_getElem? (i := 2) rfl), x_tb1 (List.mem_of_getElem? (i := 45) rfl), by decide +kernel, by decide⟩
theorem lb_RE_init : x_LB mRE_init 0 := ⟨x_tb1 (List.mem_of_getElem? (i := 3) rfl), x_tb1 (List.mem_of_getElem? (i := 68) rfl), by decide +kernel, by decide⟩
theorem lb_SU_init : x_LB mSU_init 0 := ⟨x_tb1 (List.mem_of_getElem? (i := 4) rfl), x_tb1 (List.mem_of_getElem? (i := 100) rfl), by decide +kernel, by decide⟩
theorem lb_PK_init : x_LB mPK_init 4 := ⟨x_tb1 (List.mem_of_getElem? (i := 5) rfl), x_tb1 (List.mem_of_getElem? (i := 111) rfl), by decide +kernel, by decide⟩
theorem lb_WC_init : x_LB mWC_init 1 := ⟨x_tb1 (List.mem_of_getElem? (i := 6) rfl), x_tb1 (List.mem_of_getElem? (i := 117) rfl), by decide +kernel, by decide⟩
theorem lb_MC_init : x_LB mMC_init 0 := ⟨x_tb1 (List.mem_of_getElem? (i := 7) rfl), x_tb1 (List.mem_of_getElem? (i := 137) rfl), by decide +kernel, by decide⟩
theorem lb_WE_init : x_LB mWE_init 0 := ⟨x_tb1 (List.mem_of_getElem? (i := 8) rfl), x_tb1 (List.mem_of_getElem? (i := 145) rfl), by decide +kernel, by decide⟩
theorem lb_FI_init : x_LB mFI_init 1 := ⟨x_tb1 (List.mem_of_getElem? (i := 9) rfl), x_tb1 (List.mem_of_getElem? (i := 210) rfl), by decide +kernel, by decide⟩
theorem lb_BW_init : x_LB mBW_init 1 := ⟨x_tb1 (List.mem_of_getElem? (i := 10) rfl), x_tb2 (List.mem_of_getElem? (i := 1) rfl), by decide +kernel, by decide⟩
theorem lb_RP_fixedLength : x_LB mRP_fixedLength 1 := ⟨x_tb1 (List.mem_of_getElem? (i := 1) rfl), x_tb2 (List.mem_of_getElem? (i := 15) rfl), by decide +kernel, by decide⟩
theorem lb_AR_fill : x_LB mAR_fill 2 := ⟨x_tb1 (List.mem_of_getElem? (i := 11) rfl), x_tb2 (List.mem_of_getElem? (i := 18) rfl), by decide +kernel, by decide⟩
theorem lb_WC_makeWords : x_LB mWC_makeWords 0 := ⟨x_tb1 (List.mem_of_getElem? (i := 6) rfl), x_tb2 (List.mem_of_getElem? (i := 22) rfl), by decide +kernel, by decide⟩
theorem lb_WC_turnedRound : x_LB mWC_turnedRound 2 := ⟨x_tb1 (List.mem_of_getElem? (i := 6) rfl), x_tb2 (List.mem_of_getElem? (i := 26) rfl), by decide +kernel, by decide⟩
theorem lb_UN_init : x_LB mUN_init 4 := ⟨x_tb1 (List.mem_of_getElem? (i := 12) rfl), x_tb2 (List.mem_of_getElem? (i := 80) rfl), by decide +kernel, by decide⟩
theorem lb_RC_init : x_LB mRC_init 0 := ⟨x_tb1 (List.mem_of_getElem? (i := 13) rfl), x_tb2 (List.mem_of_getElem? (i := 86) rfl), by decide +kernel, by decide⟩
theorem lb_RC_make : x_LB mRC_make 3 := ⟨x_tb1 (List.mem_of_getElem? (i := 13) rfl), x_tb2 (List.mem_of_getElem? (i := 108) rfl), by decide +kernel, by decide⟩
theorem lb_RP_fault : x_LB mRP_fault 0 := ⟨x_tb1 (List.mem_of_getElem? (i := 1) rfl), x_tb2 (List.mem_of_getElem? (i := 173) rfl), by decide +kernel, by decide⟩
theorem lb_RP_place : x_LB mRP_place 0 := ⟨x_tb1 (List.mem_of_getElem? (i := 1) rfl), x_tb2 (List.mem_of_getElem? (i := 177) rfl), by decide +kernel, by decide⟩
theorem lb_RP_size : x_LB mRP_size 0 := ⟨x_tb1 (List.mem_of_getElem? (i := 1) rfl), x_tb2 (List.mem_of_getElem? (i := 181) rfl), by decide +kernel, by decide⟩
theorem lb_RP_blocks : x_LB mRP_blocks 0 := ⟨x_tb1 (List.mem_of_getElem? (i := 1) rfl), x_tb2 (List.mem_of_getElem? (i := 185) rfl), by decide +kernel, by decide⟩
theorem lb_RP_stretches : x_LB mRP_stretches 0 := ⟨x_tb1 (List.mem_of_getElem? (i := 1) rfl), x_tb2 (List.mem_of_getElem? (i := 189) rfl), by decide +kernel, by decide⟩
theorem lb_RP_feed : x_LB mRP_feed 5 := ⟨x_tb1 (List.mem_of_getElem? (i := 1) rfl), x_tb2 (List.mem_of_getElem? (i := 197) rfl), by decide +kernel, by decide⟩
theorem lb_RO_addFour : x_LB mRO_addFour 1 := ⟨x_tb1 (List.mem_of_getElem? (i := 2) rfl), x_tb3 (List.mem_of_getElem? (i := 26) rfl), by decide +kernel, by decide⟩
theorem lb_RO_add : x_LB mRO_add 1 := ⟨x_tb1 (List.mem_of_getElem? (i := 2) rfl), x_tb3 (List.mem_of_getElem? (i := 30) rfl), by decide +kernel, by decide⟩
theorem lb_RP_end : x_LB mRP_end 1 := ⟨x_tb1 (List.mem_of_getElem? (i := 1) rfl), x_tb3 (List.mem_of_getElem? (i := 38) rfl), by decide +kernel, by decide⟩
theorem lb_RP_again : x_LB mRP_again 2 := ⟨x_tb1 (List.mem_of_getElem? (i := 1) rfl), x_tb3 (List.mem_of_getElem? (i := 60) rfl), by decide +kernel, by decide⟩
theorem lb_RO_repeat : x_LB mRO_repeat 2 := ⟨x_tb1 (List.mem_of_getElem? (i := 2) rfl), x_tb3 (List.mem_of_getElem? (i := 64) rfl), by decide +kernel, by decide⟩
theorem lb_RP_change : x_LB mRP_change 2 := ⟨x_tb1 (List.mem_of_getElem? (i := 1) rfl), x_tb3 (List.mem_of_getElem? (i := 72) rfl), by decide +kernel, by decide⟩
theorem lb_RO_byteAt : x_LB mRO_byteAt 1 := ⟨x_tb1 (List.mem_of_getElem? (i := 2) rfl), x_tb3 (List.mem_of_getElem? (i := 91) rfl), by decide +kernel, by decide⟩
theorem lb_RP_pack : x_LB mRP_pack 1 := ⟨x_tb1 (List.mem_of_getElem? (i := 1) rfl), x_tb3 (List.mem_of_getElem? (i := 98) rfl), by decide +kernel, by decide⟩
theorem lb_PK_packTape : x_LB mPK_packTape 1 := ⟨x_tb1 (List.mem_of_getElem? (i := 5) rfl), x_tb3 (List.mem_of_getElem? (i := 102) rfl), by decide +kernel, by decide⟩
theorem lb_RE_clear : x_LB mRE_clear 0 := ⟨x_tb1 (List.mem_of_getElem? (i := 3) rfl), x_tb3 (List.mem_of_getElem? (i := 106) rfl), by decide +kernel, by decide⟩
theorem lb_BW_restart : x_LB mBW_restart 0 := ⟨x_tb1 (List.mem_of_getElem? (i := 10) rfl), x_tb3 (List.mem_of_getElem? (i := 110) rfl), by decide +kernel, by decide⟩
theorem lb_FI_restart : x_LB mFI_restart 0 := ⟨x_tb1 (List.mem_of_getElem? (i := 9) rfl), x_tb3 (List.mem_of_getElem? (i := 114) rfl), by decide +kernel, by decide⟩
theorem lb_PK_writeHead : x_LB mPK_writeHead 1 := ⟨x_tb1 (List.mem_of_getElem? (i := 5) rfl), x_tb3 (List.mem_of_getElem? (i := 119) rfl), by decide +kernel, by decide⟩
theorem lb_BW_writeNumber : x_LB mBW_writeNumber 2 := ⟨x_tb1 (List.mem_of_getElem? (i := 10) rfl), x_tb3 (List.mem_of_getElem? (i := 123) rfl), by decide +kernel, by decide⟩
theorem lb_PK_takePieces : x_LB mPK_takePieces 0 := ⟨x_tb1 (List.mem_of_getElem? (i := 5) rfl), x_tb3 (List.mem_of_getElem? (i := 129) rfl), by decide +kernel, by decide⟩
theorem lb_PK_takePiece : x_LB mPK_takePiece 0 := ⟨x_tb1 (List.mem_of_getElem? (i := 5) rfl), x_tb3 (List.mem_of_getElem? (i := 133) rfl), by decide +kernel, by decide⟩
theorem lb_FI_find : x_LB mFI_find 1 := ⟨x_tb1 (List.mem_of_getElem? (i := 9) rfl), x_tb3 (List.mem_of_getElem? (i := 137) rfl), by decide +kernel, by decide⟩
theorem lb_FI_enterPlacesBefore : x_LB mFI_enterPlacesBefore 1 := ⟨x_tb1 (List.mem_of_getElem? (i := 9) rfl), x_tb3 (List.mem_of_getElem? (i := 141) rfl), by decide +kernel, by decide⟩
theorem lb_FI_keyAt : x_LB mFI_keyAt 1 := ⟨x_tb1 (List.mem_of_getElem? (i := 9) rfl), x_tb3 (List.mem_of_getElem? (i := 145) rfl), by decide +kernel, by decide⟩
theorem lb_MA_min : x_LB mMA_min 2 := ⟨x_tb1 (List.mem_of_getElem? (i := 21) rfl), x_tb3 (List.mem_of_getElem? (i := 149) rfl), by decide +kernel, by decide⟩
theorem lb_FI_search : x_LB mFI_search 2 := ⟨x_tb1 (List.mem_of_getElem? (i := 9) rfl), x_tb3 (List.mem_of_getElem? (i := 153) rfl), by decide +kernel, by decide⟩
theorem lb_MA_max : x_LB mMA_max 2 := ⟨x_tb1 (List.mem_of_getElem? (i := 21) rfl), x_tb3 (List.mem_of_getElem? (i := 156) rfl), by decide +kernel, by decide⟩
theorem lb_FI_sameBytes : x_LB mFI_sameBytes 3 := ⟨x_tb1 (List.mem_of_getElem? (i := 9) rfl), x_tb3 (List.mem_of_getElem? (i := 160) rfl), by decide +kernel, by decide⟩
theorem lb_PK_takeStretch : x_LB mPK_takeStretch 2 := ⟨x_tb1 (List.mem_of_getElem? (i := 5) rfl), x_tb3 (List.mem_of_getElem? (i := 164) rfl), by decide +kernel, by decide⟩
theorem lb_RP_lengthSymbol : x_LB mRP_lengthSymbol 1 := ⟨x_tb1 (List.mem_of_getElem? (i := 1) rfl), x_tb3 (List.mem_of_getElem? (i := 167) rfl), by decide +kernel, by decide⟩
theorem lb_RP_bitsAbove : x_LB mRP_bitsAbove 2 := ⟨x_tb1 (List.mem_of_getElem? (i := 1) rfl), x_tb3 (List.mem_of_getElem? (i := 170) rfl), by decide +kernel, by decide⟩
theorem lb_RP_distanceSymbol : x_LB mRP_distanceSymbol 1 := ⟨x_tb1 (List.mem_of_getElem? (i := 1) rfl), x_tb3 (List.mem_of_getElem? (i := 173) rfl), by decide +kernel, by decide⟩
theorem lb_RP_lengthBits : x_LB mRP_lengthBits 1 := ⟨x_tb1 (List.mem_of_getElem? (i := 1) rfl), x_tb3 (List.mem_of_getElem? (i := 176) rfl), by decide +kernel, by decide⟩
theorem lb_RP_distanceBits : x_LB mRP_distanceBits 1 := ⟨x_tb1 (List.mem_of_getElem? (i := 1) rfl), x_tb3 (List.mem_of_getElem? (i := 179) rfl), by decide +kernel, by decide⟩
theorem lb_PK_takeByte : x_LB mPK_takeByte 0 := ⟨x_tb1 (List.mem_of_getElem? (i := 5) rfl), x_tb3 (List.mem_of_getElem? (i := 183) rfl), by decide +kernel, by decide⟩
theorem lb_MC_make : x_LB mMC_make 2 := ⟨x_tb1 (List.mem_of_getElem? (i := 7) rfl), x_tb3 (List.mem_of_getElem? (i := 188) rfl), by decide +kernel, by decide⟩
theorem lb_WE_makeLengths : x_LB mWE_makeLengths 3 := ⟨x_tb1 (List.mem_of_getElem? (i := 8) rfl), x_tb3 (List.mem_of_getElem? (i := 192) rfl), by decide +kernel, by decide⟩
theorem lb_WE_sortSymbols : x_LB mWE_sortSymbols 1 := ⟨x_tb1 (List.mem_of_getElem? (i := 8) rfl), x_tb3 (List.mem_of_getElem? (i := 196) rfl), by decide +kernel, by decide⟩
theorem lb_WE_makeRow : x_LB mWE_makeRow 2 := ⟨x_tb1 (List.mem_of_getElem? (i := 8) rfl), x_tb3 (List.mem_of_getElem? (i := 201) rfl), by decide +kernel, by decide⟩
theorem lb_WE_countSymbols : x_LB mWE_countSymbols 2 := ⟨x_tb1 (List.mem_of_getElem? (i := 8) rfl), x_tb3 (List.mem_of_getElem? (i := 205) rfl), by decide +kernel, by decide⟩
theorem lb_WC_manyWithCode : x_LB mWC_manyWithCode 0 := ⟨x_tb1 (List.mem_of_getElem? (i := 6) rfl), x_tb3 (List.mem_of_getElem? (i := 209) rfl), by decide +kernel, by decide⟩
theorem lb_MC_tellRow : x_LB mMC_tellRow 1 := ⟨x_tb1 (List.mem_of_getElem? (i := 7) rfl), x_tb3 (List.mem_of_getElem? (i := 217) rfl), by decide +kernel, by decide⟩
theorem lb_MC_tellRun : x_LB mMC_tellRun 2 := ⟨x_tb1 (List.mem_of_getElem? (i := 7) rfl), x_tb3 (List.mem_of_getElem? (i := 221) rfl), by decide +kernel, by decide⟩
theorem lb_MC_tell : x_LB mMC_tell 2 := ⟨x_tb1 (List.mem_of_getElem? (i := 7) rfl), x_tb3 (List.mem_of_getElem? (i := 225) rfl), by decide +kernel, by decide⟩
theorem lb_MC_weighTold : x_LB mMC_weighTold 0 := ⟨x_tb1 (List.mem_of_getElem? (i := 7) rfl), x_tb3 (List.mem_of_getElem? (i := 230) rfl), by decide +kernel, by decide⟩
theorem lb_PK_writeBlock : x_LB mPK_writeBlock 1 := ⟨x_tb1 (List.mem_of_getElem? (i := 5) rfl), x_tb3 (List.mem_of_getElem? (i := 237) rfl), by decide +kernel, by decide⟩
theorem lb_BW_bitsWritten : x_LB mBW_bitsWritten 0 := ⟨x_tb1 (List.mem_of_getElem? (i := 10) rfl), x_tb4 (List.mem_of_getElem? (i := 1) rfl), by decide +kernel, by decide⟩
theorem lb_PK_fewestBits : x_LB mPK_fewestBits 1 := ⟨x_tb1 (List.mem_of_getElem? (i := 5) rfl), x_tb4 (List.mem_of_getElem? (i := 5) rfl), by decide +kernel, by decide⟩
theorem lb_WC_bitsFor : x_LB mWC_bitsFor 1 := ⟨x_tb1 (List.mem_of_getElem? (i := 6) rfl), x_tb4 (List.mem_of_getElem? (i := 9) rfl), by decide +kernel, by decide⟩
theorem lb_MC_bitsOfTelling : x_LB mMC_bitsOfTelling 0 := ⟨x_tb1 (List.mem_of_getElem? (i := 7) rfl), x_tb4 (List.mem_of_getElem? (i := 13) rfl), by decide +kernel, by decide⟩
theorem lb_MC_numberBits : x_LB mMC_numberBits 1 := ⟨x_tb1 (List.mem_of_getElem? (i := 7) rfl), x_tb4 (List.mem_of_getElem? (i := 16) rfl), by decide +kernel, by decide⟩
theorem lb_PK_writePlain : x_LB mPK_writePlain 0 := ⟨x_tb1 (List.mem_of_getElem? (i := 5) rfl), x_tb4 (List.mem_of_getElem? (i := 20) rfl), by decide +kernel, by decide⟩
theorem lb_BW_fillByte : x_LB mBW_fillByte 0 := ⟨x_tb1 (List.mem_of_getElem? (i := 10) rfl), x_tb4 (List.mem_of_getElem? (i := 24) rfl), by decide +kernel, by decide⟩
theorem lb_PK_writePieces : x_LB mPK_writePieces 2 := ⟨x_tb1 (List.mem_of_getElem? (i := 5) rfl), x_tb4 (List.mem_of_getElem? (i := 30) rfl), by decide +kernel, by decide⟩
theorem lb_BW_writeSymbol : x_LB mBW_writeSymbol 2 := ⟨x_tb1 (List.mem_of_getElem? (i := 10) rfl), x_tb4 (List.mem_of_getElem? (i := 34) rfl), by decide +kernel, by decide⟩
theorem lb_RP_lengthBase : x_LB mRP_lengthBase 1 := ⟨x_tb1 (List.mem_of_getElem? (i := 1) rfl), x_tb4 (List.mem_of_getElem? (i := 37) rfl), by decide +kernel, by decide⟩
theorem lb_RP_distanceBase : x_LB mRP_distanceBase 1 := ⟨x_tb1 (List.mem_of_getElem? (i := 1) rfl), x_tb4 (List.mem_of_getElem? (i := 41) rfl), by decide +kernel, by decide⟩
theorem lb_MC_writeTelling : x_LB mMC_writeTelling 1 := ⟨x_tb1 (List.mem_of_getElem? (i := 7) rfl), x_tb4 (List.mem_of_getElem? (i := 46) rfl), by decide +kernel, by decide⟩
theorem lb_RE_addBlock : x_LB mRE_addBlock 4 := ⟨x_tb1 (List.mem_of_getElem? (i := 3) rfl), x_tb4 (List.mem_of_getElem? (i := 53) rfl), by decide +kernel, by decide⟩
theorem lb_PK_writeTail : x_LB mPK_writeTail 1 := ⟨x_tb1 (List.mem_of_getElem? (i := 5) rfl), x_tb4 (List.mem_of_getElem? (i := 57) rfl), by decide +kernel, by decide⟩
theorem lb_SU_sumA : x_LB mSU_sumA 3 := ⟨x_tb1 (List.mem_of_getElem? (i := 4) rfl), x_tb4 (List.mem_of_getElem? (i := 61) rfl), by decide +kernel, by decide⟩
theorem lb_BW_writeFour : x_LB mBW_writeFour 2 := ⟨x_tb1 (List.mem_of_getElem? (i := 10) rfl), x_tb4 (List.mem_of_getElem? (i := 68) rfl), by decide +kernel, by decide⟩
theorem lb_SU_sumB : x_LB mSU_sumB 3 := ⟨x_tb1 (List.mem_of_getElem? (i := 4) rfl), x_tb4 (List.mem_of_getElem? (i := 72) rfl), by decide +kernel, by decide⟩
theorem lb_RP_unpack : x_LB mRP_unpack 1 := ⟨x_tb1 (List.mem_of_getElem? (i := 1) rfl), x_tb4 (List.mem_of_getElem? (i := 80) rfl), by decide +kernel, by decide⟩
theorem lb_UN_unpackTape : x_LB mUN_unpackTape 1 := ⟨x_tb1 (List.mem_of_getElem? (i := 12) rfl), x_tb4 (List.mem_of_getElem? (i := 84) rfl), by decide +kernel, by decide⟩
theorem lb_UN_readHead : x_LB mUN_readHead 1 := ⟨x_tb1 (List.mem_of_getElem? (i := 12) rfl), x_tb4 (List.mem_of_getElem? (i := 90) rfl), by decide +kernel, by decide⟩
theorem lb_UN_readShortHead : x_LB mUN_readShortHead 0 := ⟨x_tb1 (List.mem_of_getElem? (i := 12) rfl), x_tb4 (List.mem_of_getElem? (i := 94) rfl), by decide +kernel, by decide⟩
theorem lb_UN_readNumber : x_LB mUN_readNumber 1 := ⟨x_tb1 (List.mem_of_getElem? (i := 12) rfl), x_tb4 (List.mem_of_getElem? (i := 98) rfl), by decide +kernel, by decide⟩
theorem lb_UN_fail : x_LB mUN_fail 2 := ⟨x_tb1 (List.mem_of_getElem? (i := 12) rfl), x_tb4 (List.mem_of_getElem? (i := 102) rfl), by decide +kernel, by decide⟩
theorem lb_UN_readLongHead : x_LB mUN_readLongHead 0 := ⟨x_tb1 (List.mem_of_getElem? (i := 12) rfl), x_tb4 (List.mem_of_getElem? (i := 106) rfl), by decide +kernel, by decide⟩
theorem lb_UN_readByteThatIs : x_LB mUN_readByteThatIs 1 := ⟨x_tb1 (List.mem_of_getElem? (i := 12) rfl), x_tb4 (List.mem_of_getElem? (i := 110) rfl), by decide +kernel, by decide⟩
theorem lb_UN_skipBytes : x_LB mUN_skipBytes 1 := ⟨x_tb1 (List.mem_of_getElem? (i := 12) rfl), x_tb4 (List.mem_of_getElem? (i := 114) rfl), by decide +kernel, by decide⟩
theorem lb_UN_skipThroughZero : x_LB mUN_skipThroughZero 0 := ⟨x_tb1 (List.mem_of_getElem? (i := 12) rfl), x_tb4 (List.mem_of_getElem? (i := 118) rfl), by decide +kernel, by decide⟩
theorem lb_UN_readSumOfHead : x_LB mUN_readSumOfHead 1 := ⟨x_tb1 (List.mem_of_getElem? (i := 12) rfl), x_tb4 (List.mem_of_getElem? (i := 123) rfl), by decide +kernel, by decide⟩
theorem lb_UN_readBlocks : x_LB mUN_readBlocks 0 := ⟨x_tb1 (List.mem_of_getElem? (i := 12) rfl), x_tb4 (List.mem_of_getElem? (i := 129) rfl), by decide +kernel, by decide⟩
theorem lb_UN_readPlain : x_LB mUN_readPlain 0 := ⟨x_tb1 (List.mem_of_getElem? (i := 12) rfl), x_tb4 (List.mem_of_getElem? (i := 134) rfl), by decide +kernel, by decide⟩
theorem lb_UN_goToNextByte : x_LB mUN_goToNextByte 0 := ⟨x_tb1 (List.mem_of_getElem? (i := 12) rfl), x_tb4 (List.mem_of_getElem? (i := 138) rfl), by decide +kernel, by decide⟩
theorem lb_UN_readSymbols : x_LB mUN_readSymbols 2 := ⟨x_tb1 (List.mem_of_getElem? (i := 12) rfl), x_tb4 (List.mem_of_getElem? (i := 145) rfl), by decide +kernel, by decide⟩
theorem lb_UN_readSymbol : x_LB mUN_readSymbol 1 := ⟨x_tb1 (List.mem_of_getElem? (i := 12) rfl), x_tb4 (List.mem_of_getElem? (i := 149) rfl), by decide +kernel, by decide⟩
theorem lb_UN_readStretch : x_LB mUN_readStretch 3 := ⟨x_tb1 (List.mem_of_getElem? (i := 12) rfl), x_tb4 (List.mem_of_getElem? (i := 153) rfl), by decide +kernel, by decide⟩
theorem lb_UN_readCodes : x_LB mUN_readCodes 0 := ⟨x_tb1 (List.mem_of_getElem? (i := 12) rfl), x_tb4 (List.mem_of_getElem? (i := 163) rfl), by decide +kernel, by decide⟩
theorem lb_UN_readCodeOfLengths : x_LB mUN_readCodeOfLengths 0 := ⟨x_tb1 (List.mem_of_getElem? (i := 12) rfl), x_tb4 (List.mem_of_getElem? (i := 167) rfl), by decide +kernel, by decide⟩
theorem lb_AR_fill2 : x_LB mAR_fill2 4 := ⟨x_tb1 (List.mem_of_getElem? (i := 11) rfl), x_tb4 (List.mem_of_getElem? (i := 170) rfl), by decide +kernel, by decide⟩
theorem lb_AR_rangeCheck : x_LB mAR_rangeCheck 3 := ⟨x_tb1 (List.mem_of_getElem? (i := 11) rfl), x_tb4 (List.mem_of_getElem? (i := 173) rfl), by decide +kernel, by decide⟩
theorem lb_RC_isFull : x_LB mRC_isFull 0 := ⟨x_tb1 (List.mem_of_getElem? (i := 13) rfl), x_tb5 (List.mem_of_getElem? (i := 207) rfl), by decide +kernel, by decide⟩
theorem lb_UN_readLengths : x_LB mUN_readLengths 1 := ⟨x_tb1 (List.mem_of_getElem? (i := 12) rfl), x_tb5 (List.mem_of_getElem? (i := 212) rfl), by decide +kernel, by decide⟩
theorem lb_RC_servesDistances : x_LB mRC_servesDistances 0 := ⟨x_tb1 (List.mem_of_getElem? (i := 13) rfl), x_tb5 (List.mem_of_getElem? (i := 216) rfl), by decide +kernel, by decide⟩
theorem lb_UN_readTail : x_LB mUN_readTail 1 := ⟨x_tb1 (List.mem_of_getElem? (i := 12) rfl), x_tb5 (List.mem_of_getElem? (i := 222) rfl), by decide +kernel, by decide⟩
theorem lb_UN_readFourThatAre : x_LB mUN_readFourThatAre 3 := ⟨x_tb1 (List.mem_of_getElem? (i := 12) rfl), x_tb5 (List.mem_of_getElem? (i := 227) rfl), by decide +kernel, by decide⟩
theorem lb_RP_out : x_LB mRP_out 1 := ⟨x_tb1 (List.mem_of_getElem? (i := 1) rfl), x_tb5 (List.mem_of_getElem? (i := 234) rfl), by decide +kernel, by decide⟩
theorem lb_RP_turn : x_LB mRP_turn 0 := ⟨x_tb1 (List.mem_of_getElem? (i := 1) rfl), x_tb6 (List.mem_of_getElem? (i := 1) rfl), by decide +kernel, by decide⟩
theorem lb_RP_sum : x_LB mRP_sum 1 := ⟨x_tb1 (List.mem_of_getElem? (i := 1) rfl), x_tb6 (List.mem_of_getElem? (i := 9) rfl), by decide +kernel, by decide⟩
theorem lb_RP_block : x_LB mRP_block 2 := ⟨x_tb1 (List.mem_of_getElem? (i := 1) rfl), x_tb6 (List.mem_of_getElem? (i := 18) rfl), by decide +kernel, by decide⟩
theorem lb_MO_init : x_LB mMO_init 0 := ⟨x_tb1 (List.mem_of_getElem? (i := 14) rfl), x_tb6 (List.mem_of_getElem? (i := 23) rfl), by decide +kernel, by decide⟩
theorem lb_MO_thrown : x_LB mMO_thrown 0 := ⟨x_tb1 (List.mem_of_getElem? (i := 14) rfl), x_tb6 (List.mem_of_getElem? (i := 134) rfl), by decide +kernel, by decide⟩
theorem lb_MO_feed : x_LB mMO_feed 5 := ⟨x_tb1 (List.mem_of_getElem? (i := 14) rfl), x_tb6 (List.mem_of_getElem? (i := 138) rfl), by decide +kernel, by decide⟩
theorem lb_MO_type : x_LB mMO_type 1 := ⟨x_tb1 (List.mem_of_getElem? (i := 14) rfl), x_tb6 (List.mem_of_getElem? (i := 142) rfl), by decide +kernel, by decide⟩
theorem lb_MO_end : x_LB mMO_end 1 := ⟨x_tb1 (List.mem_of_getElem? (i := 14) rfl), x_tb6 (List.mem_of_getElem? (i := 146) rfl), by decide +kernel, by decide⟩
theorem lb_MO_again : x_LB mMO_again 2 := ⟨x_tb1 (List.mem_of_getElem? (i := 14) rfl), x_tb6 (List.mem_of_getElem? (i := 150) rfl), by decide +kernel, by decide⟩
theorem lb_MO_change : x_LB mMO_change 2 := ⟨x_tb1 (List.mem_of_getElem? (i := 14) rfl), x_tb6 (List.mem_of_getElem? (i := 154) rfl), by decide +kernel, by decide⟩
theorem lb_MO_sum : x_LB mMO_sum 1 := ⟨x_tb1 (List.mem_of_getElem? (i := 14) rfl), x_tb6 (List.mem_of_getElem? (i := 158) rfl), by decide +kernel, by decide⟩
theorem lb_MO_sumA : x_LB mMO_sumA 3 := ⟨x_tb1 (List.mem_of_getElem? (i := 14) rfl), x_tb6 (List.mem_of_getElem? (i := 161) rfl), by decide +kernel, by decide⟩
theorem lb_MO_sumB : x_LB mMO_sumB 3 := ⟨x_tb1 (List.mem_of_getElem? (i := 14) rfl), x_tb6 (List.mem_of_getElem? (i := 166) rfl), by decide +kernel, by decide⟩
theorem lb_MO_unpack : x_LB mMO_unpack 1 := ⟨x_tb1 (List.mem_of_getElem? (i := 14) rfl), x_tb6 (List.mem_of_getElem? (i := 174) rfl), by decide +kernel, by decide⟩
theorem lb_MO_clear : x_LB mMO_clear 0 := ⟨x_tb1 (List.mem_of_getElem? (i := 14) rfl), x_tb6 (List.mem_of_getElem? (i := 178) rfl), by decide +kernel, by decide⟩
theorem lb_MO_readBlocks : x_LB mMO_readBlocks 0 := ⟨x_tb1 (List.mem_of_getElem? (i := 14) rfl), x_tb6 (List.mem_of_getElem? (i := 182) rfl), by decide +kernel, by decide⟩
theorem lb_MO_bit : x_LB mMO_bit 0 := ⟨x_tb1 (List.mem_of_getElem? (i := 14) rfl), x_tb6 (List.mem_of_getElem? (i := 186) rfl), by decide +kernel, by decide⟩
theorem lb_MO_fail : x_LB mMO_fail 2 := ⟨x_tb1 (List.mem_of_getElem? (i := 14) rfl), x_tb6 (List.mem_of_getElem? (i := 190) rfl), by decide +kernel, by decide⟩
theorem lb_MO_number : x_LB mMO_number 1 := ⟨x_tb1 (List.mem_of_getElem? (i := 14) rfl), x_tb6 (List.mem_of_getElem? (i := 194) rfl), by decide +kernel, by decide⟩
theorem lb_MO_readPlain : x_LB mMO_readPlain 0 := ⟨x_tb1 (List.mem_of_getElem? (i := 14) rfl), x_tb6 (List.mem_of_getElem? (i := 198) rfl), by decide +kernel, by decide⟩
theorem lb_MO_toByte : x_LB mMO_toByte 0 := ⟨x_tb1 (List.mem_of_getElem? (i := 14) rfl), x_tb6 (List.mem_of_getElem? (i := 202) rfl), by decide +kernel, by decide⟩
theorem lb_MO_put : x_LB mMO_put 1 := ⟨x_tb1 (List.mem_of_getElem? (i := 14) rfl), x_tb6 (List.mem_of_getElem? (i := 207) rfl), by decide +kernel, by decide⟩
theorem lb_MO_plainLengths : x_LB mMO_plainLengths 0 := ⟨x_tb1 (List.mem_of_getElem? (i := 14) rfl), x_tb6 (List.mem_of_getElem? (i := 211) rfl), by decide +kernel, by decide⟩
theorem lb_MO_prepare : x_LB mMO_prepare 3 := ⟨x_tb1 (List.mem_of_getElem? (i := 14) rfl), x_tb6 (List.mem_of_getElem? (i := 215) rfl), by decide +kernel, by decide⟩
theorem lb_MO_readCodes : x_LB mMO_readCodes 0 := ⟨x_tb1 (List.mem_of_getElem? (i := 14) rfl), x_tb6 (List.mem_of_getElem? (i := 219) rfl), by decide +kernel, by decide⟩
theorem lb_MO_orderOf : x_LB mMO_orderOf 1 := ⟨x_tb1 (List.mem_of_getElem? (i := 14) rfl), x_tb6 (List.mem_of_getElem? (i := 222) rfl), by decide +kernel, by decide⟩
theorem lb_MO_readRow : x_LB mMO_readRow 1 := ⟨x_tb1 (List.mem_of_getElem? (i := 14) rfl), x_tb6 (List.mem_of_getElem? (i := 226) rfl), by decide +kernel, by decide⟩
theorem lb_MO_symbol : x_LB mMO_symbol 2 := ⟨x_tb1 (List.mem_of_getElem? (i := 14) rfl), x_tb6 (List.mem_of_getElem? (i := 230) rfl), by decide +kernel, by decide⟩
theorem lb_MO_readSymbols : x_LB mMO_readSymbols 1 := ⟨x_tb1 (List.mem_of_getElem? (i := 14) rfl), x_tb6 (List.mem_of_getElem? (i := 234) rfl), by decide +kernel, by decide⟩
theorem lb_MO_leastLength : x_LB mMO_leastLength 1 := ⟨x_tb1 (List.mem_of_getElem? (i := 14) rfl), x_tb6 (List.mem_of_getElem? (i := 237) rfl), by decide +kernel, by decide⟩
theorem lb_MO_lengthBits : x_LB mMO_lengthBits 1 := ⟨x_tb1 (List.mem_of_getElem? (i := 14) rfl), x_tb7 (List.mem_of_getElem? (i := 0) rfl), by decide +kernel, by decide⟩
theorem lb_MO_distance : x_LB mMO_distance 1 := ⟨x_tb1 (List.mem_of_getElem? (i := 14) rfl), x_tb7 (List.mem_of_getElem? (i := 4) rfl), by decide +kernel, by decide⟩
theorem lb_MO_leastDistance : x_LB mMO_leastDistance 1 := ⟨x_tb1 (List.mem_of_getElem? (i := 14) rfl), x_tb7 (List.mem_of_getElem? (i := 7) rfl), by decide +kernel, by decide⟩
theorem lb_MO_distanceBits : x_LB mMO_distanceBits 1 := ⟨x_tb1 (List.mem_of_getElem? (i := 14) rfl), x_tb7 (List.mem_of_getElem? (i := 10) rfl), by decide +kernel, by decide⟩
theorem lb_MO_note : x_LB mMO_note 4 := ⟨x_tb1 (List.mem_of_getElem? (i := 14) rfl), x_tb7 (List.mem_of_getElem? (i := 14) rfl), by decide +kernel, by decide⟩
theorem lb_MO_wantEnd : x_LB mMO_wantEnd 0 := ⟨x_tb1 (List.mem_of_getElem? (i := 14) rfl), x_tb7 (List.mem_of_getElem? (i := 18) rfl), by decide +kernel, by decide⟩
theorem lb_MO_readShort : x_LB mMO_readShort 0 := ⟨x_tb1 (List.mem_of_getElem? (i := 14) rfl), x_tb7 (List.mem_of_getElem? (i := 22) rfl), by decide +kernel, by decide⟩
theorem lb_MO_wrapped : x_LB mMO_wrapped 0 := ⟨x_tb1 (List.mem_of_getElem? (i := 14) rfl), x_tb7 (List.mem_of_getElem? (i := 26) rfl), by decide +kernel, by decide⟩
theorem lb_MO_readLong : x_LB mMO_readLong 0 := ⟨x_tb1 (List.mem_of_getElem? (i := 14) rfl), x_tb7 (List.mem_of_getElem? (i := 31) rfl), by decide +kernel, by decide⟩
theorem lb_MO_readHead : x_LB mMO_readHead 0 := ⟨x_tb1 (List.mem_of_getElem? (i := 14) rfl), x_tb7 (List.mem_of_getElem? (i := 35) rfl), by decide +kernel, by decide⟩
theorem lb_MO_want : x_LB mMO_want 1 := ⟨x_tb1 (List.mem_of_getElem? (i := 14) rfl), x_tb7 (List.mem_of_getElem? (i := 39) rfl), by decide +kernel, by decide⟩
theorem lb_MO_skip : x_LB mMO_skip 1 := ⟨x_tb1 (List.mem_of_getElem? (i := 14) rfl), x_tb7 (List.mem_of_getElem? (i := 43) rfl), by decide +kernel, by decide⟩
theorem lb_MO_skipText : x_LB mMO_skipText 0 := ⟨x_tb1 (List.mem_of_getElem? (i := 14) rfl), x_tb7 (List.mem_of_getElem? (i := 47) rfl), by decide +kernel, by decide⟩
theorem lb_MO_four : x_LB mMO_four 0 := ⟨x_tb1 (List.mem_of_getElem? (i := 14) rfl), x_tb7 (List.mem_of_getElem? (i := 52) rfl), by decide +kernel, by decide⟩
theorem lb_MO_pack : x_LB mMO_pack 1 := ⟨x_tb1 (List.mem_of_getElem? (i := 14) rfl), x_tb7 (List.mem_of_getElem? (i := 56) rfl), by decide +kernel, by decide⟩
theorem lb_MO_putNumber : x_LB mMO_putNumber 2 := ⟨x_tb1 (List.mem_of_getElem? (i := 14) rfl), x_tb7 (List.mem_of_getElem? (i := 60) rfl), by decide +kernel, by decide⟩
theorem lb_MO_putBit : x_LB mMO_putBit 1 := ⟨x_tb1 (List.mem_of_getElem? (i := 14) rfl), x_tb7 (List.mem_of_getElem? (i := 64) rfl), by decide +kernel, by decide⟩
theorem lb_MO_putBlocks : x_LB mMO_putBlocks 0 := ⟨x_tb1 (List.mem_of_getElem? (i := 14) rfl), x_tb7 (List.mem_of_getElem? (i := 68) rfl), by decide +kernel, by decide⟩
theorem lb_MO_stretchOf : x_LB mMO_stretchOf 1 := ⟨x_tb1 (List.mem_of_getElem? (i := 14) rfl), x_tb7 (List.mem_of_getElem? (i := 72) rfl), by decide +kernel, by decide⟩
theorem lb_MO_same : x_LB mMO_same 2 := ⟨x_tb1 (List.mem_of_getElem? (i := 14) rfl), x_tb7 (List.mem_of_getElem? (i := 76) rfl), by decide +kernel, by decide⟩
theorem lb_MO_putBlock : x_LB mMO_putBlock 3 := ⟨x_tb1 (List.mem_of_getElem? (i := 14) rfl), x_tb7 (List.mem_of_getElem? (i := 80) rfl), by decide +kernel, by decide⟩
theorem lb_MO_pieceBits : x_LB mMO_pieceBits 0 := ⟨x_tb1 (List.mem_of_getElem? (i := 14) rfl), x_tb7 (List.mem_of_getElem? (i := 84) rfl), by decide +kernel, by decide⟩
theorem lb_MO_lengthSymbol : x_LB mMO_lengthSymbol 1 := ⟨x_tb1 (List.mem_of_getElem? (i := 14) rfl), x_tb7 (List.mem_of_getElem? (i := 87) rfl), by decide +kernel, by decide⟩
theorem lb_MO_distanceSymbol : x_LB mMO_distanceSymbol 1 := ⟨x_tb1 (List.mem_of_getElem? (i := 14) rfl), x_tb7 (List.mem_of_getElem? (i := 90) rfl), by decide +kernel, by decide⟩
theorem lb_MO_plan : x_LB mMO_plan 0 := ⟨x_tb1 (List.mem_of_getElem? (i := 14) rfl), x_tb7 (List.mem_of_getElem? (i := 94) rfl), by decide +kernel, by decide⟩
theorem lb_MO_weigh : x_LB mMO_weigh 0 := ⟨x_tb1 (List.mem_of_getElem? (i := 14) rfl), x_tb7 (List.mem_of_getElem? (i := 98) rfl), by decide +kernel, by decide⟩
theorem lb_MO_byWeights : x_LB mMO_byWeights 3 := ⟨x_tb1 (List.mem_of_getElem? (i := 14) rfl), x_tb7 (List.mem_of_getElem? (i := 102) rfl), by decide +kernel, by decide⟩
theorem lb_MO_isBefore : x_LB mMO_isBefore 4 := ⟨x_tb1 (List.mem_of_getElem? (i := 14) rfl), x_tb7 (List.mem_of_getElem? (i := 105) rfl), by decide +kernel, by decide⟩
theorem lb_MO_layRows : x_LB mMO_layRows 3 := ⟨x_tb1 (List.mem_of_getElem? (i := 14) rfl), x_tb7 (List.mem_of_getElem? (i := 109) rfl), by decide +kernel, by decide⟩
theorem lb_MO_lastOf : x_LB mMO_lastOf 3 := ⟨x_tb1 (List.mem_of_getElem? (i := 14) rfl), x_tb7 (List.mem_of_getElem? (i := 112) rfl), by decide +kernel, by decide⟩
theorem lb_MO_tellRow : x_LB mMO_tellRow 1 := ⟨x_tb1 (List.mem_of_getElem? (i := 14) rfl), x_tb7 (List.mem_of_getElem? (i := 116) rfl), by decide +kernel, by decide⟩
theorem lb_MO_run : x_LB mMO_run 2 := ⟨x_tb1 (List.mem_of_getElem? (i := 14) rfl), x_tb7 (List.mem_of_getElem? (i := 120) rfl), by decide +kernel, by decide⟩
theorem lb_MO_tell : x_LB mMO_tell 2 := ⟨x_tb1 (List.mem_of_getElem? (i := 14) rfl), x_tb7 (List.mem_of_getElem? (i := 124) rfl), by decide +kernel, by decide⟩
theorem lb_MO_toldBits : x_LB mMO_toldBits 1 := ⟨x_tb1 (List.mem_of_getElem? (i := 14) rfl), x_tb7 (List.mem_of_getElem? (i := 127) rfl), by decide +kernel, by decide⟩
theorem lb_MO_putPlain : x_LB mMO_putPlain 2 := ⟨x_tb1 (List.mem_of_getElem? (i := 14) rfl), x_tb7 (List.mem_of_getElem? (i := 131) rfl), by decide +kernel, by decide⟩
theorem lb_MO_pad : x_LB mMO_pad 0 := ⟨x_tb1 (List.mem_of_getElem? (i := 14) rfl), x_tb7 (List.mem_of_getElem? (i := 135) rfl), by decide +kernel, by decide⟩
theorem lb_MO_putPieces : x_LB mMO_putPieces 0 := ⟨x_tb1 (List.mem_of_getElem? (i := 14) rfl), x_tb7 (List.mem_of_getElem? (i := 139) rfl), by decide +kernel, by decide⟩
theorem lb_MO_makeCodes : x_LB mMO_makeCodes 2 := ⟨x_tb1 (List.mem_of_getElem? (i := 14) rfl), x_tb7 (List.mem_of_getElem? (i := 143) rfl), by decide +kernel, by decide⟩
theorem lb_MO_putCode : x_LB mMO_putCode 1 := ⟨x_tb1 (List.mem_of_getElem? (i := 14) rfl), x_tb7 (List.mem_of_getElem? (i := 147) rfl), by decide +kernel, by decide⟩
theorem lb_MO_putPlanned : x_LB mMO_putPlanned 0 := ⟨x_tb1 (List.mem_of_getElem? (i := 14) rfl), x_tb7 (List.mem_of_getElem? (i := 151) rfl), by decide +kernel, by decide⟩
theorem lb_MO_putFour : x_LB mMO_putFour 1 := ⟨x_tb1 (List.mem_of_getElem? (i := 14) rfl), x_tb7 (List.mem_of_getElem? (i := 155) rfl), by decide +kernel, by decide⟩
theorem lb_MO_fault : x_LB mMO_fault 0 := ⟨x_tb1 (List.mem_of_getElem? (i := 14) rfl), x_tb7 (List.mem_of_getElem? (i := 159) rfl), by decide +kernel, by decide⟩
theorem lb_MO_place : x_LB mMO_place 0 := ⟨x_tb1 (List.mem_of_getElem? (i := 14) rfl), x_tb7 (List.mem_of_getElem? (i := 163) rfl), by decide +kernel, by decide⟩
theorem lb_MO_size : x_LB mMO_size 0 := ⟨x_tb1 (List.mem_of_getElem? (i := 14) rfl), x_tb7 (List.mem_of_getElem? (i := 167) rfl), by decide +kernel, by decide⟩
theorem lb_MO_out : x_LB mMO_out 1 := ⟨x_tb1 (List.mem_of_getElem? (i := 14) rfl), x_tb7 (List.mem_of_getElem? (i := 171) rfl), by decide +kernel, by decide⟩
theorem lb_MO_turn : x_LB mMO_turn 0 := ⟨x_tb1 (List.mem_of_getElem? (i := 14) rfl), x_tb7 (List.mem_of_getElem? (i := 175) rfl), by decide +kernel, by decide⟩
theorem lb_MO_blocks : x_LB mMO_blocks 0 := ⟨x_tb1 (List.mem_of_getElem? (i := 14) rfl), x_tb7 (List.mem_of_getElem? (i := 179) rfl), by decide +kernel, by decide⟩
theorem lb_MO_block : x_LB mMO_block 2 := ⟨x_tb1 (List.mem_of_getElem? (i := 14) rfl), x_tb7 (List.mem_of_getElem? (i := 183) rfl), by decide +kernel, by decide⟩
theorem lb_MO_stretches : x_LB mMO_stretches 0 := ⟨x_tb1 (List.mem_of_getElem? (i := 14) rfl), x_tb7 (List.mem_of_getElem? (i := 187) rfl), by decide +kernel, by decide⟩
theorem lk_16_51 : x_LI 16 51 mRP_init 0 := ⟨x_tb1 (List.mem_of_getElem? (i := 34) rfl), x_tb1 (List.mem_of_getElem? (i := 35) rfl), rfl, rfl, lb_RP_init⟩
theorem lo_0_3 : Cond.methodLink (x_cn 0) 3 Lib.objectInit ∈ x_tw := x_tb1 (List.mem_of_getElem? (i := 37) rfl)
theorem lk_0_12 : x_LI 0 12 mRO_init 1 := ⟨x_tb1 (List.mem_of_getElem? (i := 43) rfl), x_tb1 (List.mem_of_getElem? (i := 44) rfl), rfl, rfl, lb_RO_init⟩
theorem lo_7_1 : Cond.methodLink (x_cn 7) 1 Lib.objectInit ∈ x_tw := x_tb1 (List.mem_of_getElem? (i := 46) rfl)
theorem lk_0_25 : x_LIN 0 25 mRE_init 0 := ⟨x_tb1 (List.mem_of_getElem? (i := 66) rfl), x_tb1 (List.mem_of_getElem? (i := 67) rfl), rfl, rfl, lb_RE_init⟩
theorem lo_6_3 : Cond.methodLink (x_cn 6) 3 Lib.objectInit ∈ x_tw := x_tb1 (List.mem_of_getElem? (i := 69) rfl)
theorem lk_0_32 : x_LI 0 32 mSU_init 0 := ⟨x_tb1 (List.mem_of_getElem? (i := 98) rfl), x_tb1 (List.mem_of_getElem? (i := 99) rfl), rfl, rfl, lb_SU_init⟩
theorem lo_8_1 : Cond.methodLink (x_cn 8) 1 Lib.objectInit ∈ x_tw := x_tb1 (List.mem_of_getElem? (i := 101) rfl)
theorem lk_0_39 : x_LI 0 39 mPK_init 4 := ⟨x_tb1 (List.mem_of_getElem? (i := 109) rfl), x_tb1 (List.mem_of_getElem? (i := 110) rfl), rfl, rfl, lb_PK_init⟩
theorem lo_4_3 : Cond.methodLink (x_cn 4) 3 Lib.objectInit ∈ x_tw := x_tb1 (List.mem_of_getElem? (i := 112) rfl)
theorem lk_4_11 : x_LI 4 11 mWC_init 1 := ⟨x_tb1 (List.mem_of_getElem? (i := 115) rfl), x_tb1 (List.mem_of_getElem? (i := 116) rfl), rfl, rfl, lb_WC_init⟩
theorem lo_11_3 : Cond.methodLink (x_cn 11) 3 Lib.objectInit ∈ x_tw := x_tb1 (List.mem_of_getElem? (i := 118) rfl)
theorem lk_4_25 : x_LIN 4 25 mMC_init 0 := ⟨x_tb1 (List.mem_of_getElem? (i := 135) rfl), x_tb1 (List.mem_of_getElem? (i := 136) rfl), rfl, rfl, lb_MC_init⟩
theorem lo_3_3 : Cond.methodLink (x_cn 3) 3 Lib.objectInit ∈ x_tw := x_tb1 (List.mem_of_getElem? (i := 138) rfl)
theorem lk_3_11 : x_LI 3 11 mWC_init 1 := ⟨x_tb1 (List.mem_of_getElem? (i := 140) rfl), x_tb1 (List.mem_of_getElem? (i := 116) rfl), rfl, rfl, lb_WC_init⟩
theorem lk_3_28 : x_LIN 3 28 mWE_init 0 := ⟨x_tb1 (List.mem_of_getElem? (i := 143) rfl), x_tb1 (List.mem_of_getElem? (i := 144) rfl), rfl, rfl, lb_WE_init⟩
theorem lo_10_3 : Cond.methodLink (x_cn 10) 3 Lib.objectInit ∈ x_tw := x_tb1 (List.mem_of_getElem? (i := 146) rfl)
theorem lk_4_57 : x_LI 4 57 mFI_init 1 := ⟨x_tb1 (List.mem_of_getElem? (i := 208) rfl), x_tb1 (List.mem_of_getElem? (i := 209) rfl), rfl, rfl, lb_FI_init⟩
theorem lo_2_5 : Cond.methodLink (x_cn 2) 5 Lib.objectInit ∈ x_tw := x_tb1 (List.mem_of_getElem? (i := 211) rfl)
theorem lk_4_66 : x_LI 4 66 mBW_init 1 := ⟨x_tb1 (List.mem_of_getElem? (i := 239) rfl), x_tb2 (List.mem_of_getElem? (i := 0) rfl), rfl, rfl, lb_BW_init⟩
theorem lo_1_1 : Cond.methodLink (x_cn 1) 1 Lib.objectInit ∈ x_tw := x_tb2 (List.mem_of_getElem? (i := 2) rfl)
theorem lk_4_74 : x_LSN 4 74 mRP_fixedLength 1 := ⟨x_tb2 (List.mem_of_getElem? (i := 13) rfl), x_tb2 (List.mem_of_getElem? (i := 14) rfl), lb_RP_fixedLength⟩
theorem lk_4_78 : x_LS 4 78 mAR_fill 2 := ⟨x_tb2 (List.mem_of_getElem? (i := 16) rfl), x_tb2 (List.mem_of_getElem? (i := 17) rfl), lb_AR_fill⟩
theorem lk_4_84 : x_LV 4 84 mWC_makeWords 0 := ⟨x_tb2 (List.mem_of_getElem? (i := 19) rfl), x_tb2 (List.mem_of_getElem? (i := 20) rfl), x_tb2 (List.mem_of_getElem? (i := 21) rfl), lb_WC_makeWords⟩
theorem lk_11_21 : x_LS 11 21 mAR_fill 2 := ⟨x_tb2 (List.mem_of_getElem? (i := 23) rfl), x_tb2 (List.mem_of_getElem? (i := 17) rfl), lb_AR_fill⟩
theorem lk_11_27 : x_LS 11 27 mWC_turnedRound 2 := ⟨x_tb2 (List.mem_of_getElem? (i := 24) rfl), x_tb2 (List.mem_of_getElem? (i := 25) rfl), lb_WC_turnedRound⟩
theorem lk_0_48 : x_LI 0 48 mUN_init 4 := ⟨x_tb2 (List.mem_of_getElem? (i := 78) rfl), x_tb2 (List.mem_of_getElem? (i := 79) rfl), rfl, rfl, lb_UN_init⟩
theorem lo_9_3 : Cond.methodLink (x_cn 9) 3 Lib.objectInit ∈ x_tw := x_tb2 (List.mem_of_getElem? (i := 81) rfl)
theorem lk_9_11 : x_LIN 9 11 mRC_init 0 := ⟨x_tb2 (List.mem_of_getElem? (i := 84) rfl), x_tb2 (List.mem_of_getElem? (i := 85) rfl), rfl, rfl, lb_RC_init⟩
theorem lo_5_3 : Cond.methodLink (x_cn 5) 3 Lib.objectInit ∈ x_tw := x_tb2 (List.mem_of_getElem? (i := 87) rfl)
theorem lk_9_49 : x_LSN 9 49 mRP_fixedLength 1 := ⟨x_tb2 (List.mem_of_getElem? (i := 104) rfl), x_tb2 (List.mem_of_getElem? (i := 14) rfl), lb_RP_fixedLength⟩
theorem lk_9_53 : x_LV 9 53 mRC_make 3 := ⟨x_tb2 (List.mem_of_getElem? (i := 105) rfl), x_tb2 (List.mem_of_getElem? (i := 106) rfl), x_tb2 (List.mem_of_getElem? (i := 107) rfl), lb_RC_make⟩
theorem lk_5_21 : x_LS 5 21 mAR_fill 2 := ⟨x_tb2 (List.mem_of_getElem? (i := 109) rfl), x_tb2 (List.mem_of_getElem? (i := 17) rfl), lb_AR_fill⟩
theorem lk_9_57 : x_LS 9 57 mAR_fill 2 := ⟨x_tb2 (List.mem_of_getElem? (i := 110) rfl), x_tb2 (List.mem_of_getElem? (i := 17) rfl), lb_AR_fill⟩
theorem lk_16_82 : x_LV 16 82 mRP_fault 0 := ⟨x_tb2 (List.mem_of_getElem? (i := 170) rfl), x_tb2 (List.mem_of_getElem? (i := 171) rfl), x_tb2 (List.mem_of_getElem? (i := 172) rfl), lb_RP_fault⟩
theorem lk_16_86 : x_LV 16 86 mRP_place 0 := ⟨x_tb2 (List.mem_of_getElem? (i := 174) rfl), x_tb2 (List.mem_of_getElem? (i := 175) rfl), x_tb2 (List.mem_of_getElem? (i := 176) rfl), lb_RP_place⟩
theorem lk_16_90 : x_LV 16 90 mRP_size 0 := ⟨x_tb2 (List.mem_of_getElem? (i := 178) rfl), x_tb2 (List.mem_of_getElem? (i := 179) rfl), x_tb2 (List.mem_of_getElem? (i := 180) rfl), lb_RP_size⟩
theorem lk_16_104 : x_LV 16 104 mRP_blocks 0 := ⟨x_tb2 (List.mem_of_getElem? (i := 182) rfl), x_tb2 (List.mem_of_getElem? (i := 183) rfl), x_tb2 (List.mem_of_getElem? (i := 184) rfl), lb_RP_blocks⟩
theorem lk_16_111 : x_LV 16 111 mRP_stretches 0 := ⟨x_tb2 (List.mem_of_getElem? (i := 186) rfl), x_tb2 (List.mem_of_getElem? (i := 187) rfl), x_tb2 (List.mem_of_getElem? (i := 188) rfl), lb_RP_stretches⟩
-- RowPackerLaw 55 -> ('RowPackerLaw', 'feed', '(LRowPacker;IIIII[J)I')
theorem lk_16_7 : x_LV 16 7 mRP_feed 5 := ⟨x_tb2 (List.mem_of_getElem? (i := 194) rfl), x_tb2 (List.mem_of_getElem? (i := 195) rfl), x_tb2 (List.mem_of_getElem? (i := 196) rfl), lb_RP_feed⟩
-- RowPacker 59 -> ('java/lang/IllegalStateException', '<init>', '()V')
-- java/lang/IllegalStateException 1 -> ('java/lang/RuntimeException', '<init>', '()V')
theorem lk_0_60 : x_LV 0 60 mRO_addFour 1 := ⟨x_tb3 (List.mem_of_getElem? (i := 23) rfl), x_tb3 (List.mem_of_getElem? (i := 24) rfl), x_tb3 (List.mem_of_getElem? (i := 25) rfl), lb_RO_addFour⟩
theorem lk_7_17 : x_LV 7 17 mRO_add 1 := ⟨x_tb3 (List.mem_of_getElem? (i := 27) rfl), x_tb3 (List.mem_of_getElem? (i := 28) rfl), x_tb3 (List.mem_of_getElem? (i := 29) rfl), lb_RO_add⟩
-- RowPackerLaw 64 -> ('RowPackerLaw', 'end', '(LRowPacker;I)I')
theorem lk_16_15 : x_LV 16 15 mRP_end 1 := ⟨x_tb3 (List.mem_of_getElem? (i := 35) rfl), x_tb3 (List.mem_of_getElem? (i := 36) rfl), x_tb3 (List.mem_of_getElem? (i := 37) rfl), lb_RP_end⟩
-- RowPacker 65 -> ('java/lang/IllegalArgumentException', '<init>', '()V')
-- java/lang/IllegalArgumentException 1 -> ('java/lang/RuntimeException', '<init>', '()V')
-- RowPackerLaw 68 -> ('RowPackerLaw', 'again', '(LRowPacker;II[J)I')
theorem lk_16_21 : x_LV 16 21 mRP_again 2 := ⟨x_tb3 (List.mem_of_getElem? (i := 57) rfl), x_tb3 (List.mem_of_getElem? (i := 58) rfl), x_tb3 (List.mem_of_getElem? (i := 59) rfl), lb_RP_again⟩
theorem lk_0_66 : x_LV 0 66 mRO_repeat 2 := ⟨x_tb3 (List.mem_of_getElem? (i := 61) rfl), x_tb3 (List.mem_of_getElem? (i := 62) rfl), x_tb3 (List.mem_of_getElem? (i := 63) rfl), lb_RO_repeat⟩
-- RowPackerLaw 72 -> ('RowPackerLaw', 'change', '(LRowPacker;II[J)I')
theorem lk_16_25 : x_LV 16 25 mRP_change 2 := ⟨x_tb3 (List.mem_of_getElem? (i := 69) rfl), x_tb3 (List.mem_of_getElem? (i := 70) rfl), x_tb3 (List.mem_of_getElem? (i := 71) rfl), lb_RP_change⟩
-- RowPacker 72 -> ('java/lang/IndexOutOfBoundsException', '<init>', '()V')
-- java/lang/IndexOutOfBoundsException 1 -> ('java/lang/RuntimeException', '<init>', '()V')
theorem lk_0_77 : x_LV 0 77 mRO_byteAt 1 := ⟨x_tb3 (List.mem_of_getElem? (i := 88) rfl), x_tb3 (List.mem_of_getElem? (i := 89) rfl), x_tb3 (List.mem_of_getElem? (i := 90) rfl), lb_RO_byteAt⟩
-- RowPackerLaw 75 -> ('RowPackerLaw', 'pack', '(LRowPacker;I[J)I')
theorem lk_16_30 : x_LV 16 30 mRP_pack 1 := ⟨x_tb3 (List.mem_of_getElem? (i := 95) rfl), x_tb3 (List.mem_of_getElem? (i := 96) rfl), x_tb3 (List.mem_of_getElem? (i := 97) rfl), lb_RP_pack⟩
theorem lk_0_81 : x_LV 0 81 mPK_packTape 1 := ⟨x_tb3 (List.mem_of_getElem? (i := 99) rfl), x_tb3 (List.mem_of_getElem? (i := 100) rfl), x_tb3 (List.mem_of_getElem? (i := 101) rfl), lb_PK_packTape⟩
theorem lk_4_87 : x_LV 4 87 mRE_clear 0 := ⟨x_tb3 (List.mem_of_getElem? (i := 103) rfl), x_tb3 (List.mem_of_getElem? (i := 104) rfl), x_tb3 (List.mem_of_getElem? (i := 105) rfl), lb_RE_clear⟩
theorem lk_4_92 : x_LV 4 92 mBW_restart 0 := ⟨x_tb3 (List.mem_of_getElem? (i := 107) rfl), x_tb3 (List.mem_of_getElem? (i := 108) rfl), x_tb3 (List.mem_of_getElem? (i := 109) rfl), lb_BW_restart⟩
theorem lk_4_95 : x_LV 4 95 mFI_restart 0 := ⟨x_tb3 (List.mem_of_getElem? (i := 111) rfl), x_tb3 (List.mem_of_getElem? (i := 112) rfl), x_tb3 (List.mem_of_getElem? (i := 113) rfl), lb_FI_restart⟩
theorem lk_2_23 : x_LS 2 23 mAR_fill 2 := ⟨x_tb3 (List.mem_of_getElem? (i := 115) rfl), x_tb2 (List.mem_of_getElem? (i := 17) rfl), lb_AR_fill⟩
theorem lk_4_96 : x_LV 4 96 mPK_writeHead 1 := ⟨x_tb3 (List.mem_of_getElem? (i := 116) rfl), x_tb3 (List.mem_of_getElem? (i := 118) rfl), x_sel (q := (⟨"RowPacker$Packer", "writeHead", "(I)V"⟩, _)) (List.mem_append_left _ (List.mem_of_getElem? (i := 1) rfl)), lb_PK_writeHead⟩
theorem lk_4_129 : x_LV 4 129 mBW_writeNumber 2 := ⟨x_tb3 (List.mem_of_getElem? (i := 120) rfl), x_tb3 (List.mem_of_getElem? (i := 121) rfl), x_tb3 (List.mem_of_getElem? (i := 122) rfl), lb_BW_writeNumber⟩
theorem lk_1_25 : x_LV 1 25 mRO_add 1 := ⟨x_tb3 (List.mem_of_getElem? (i := 124) rfl), x_tb3 (List.mem_of_getElem? (i := 28) rfl), x_tb3 (List.mem_of_getElem? (i := 29) rfl), lb_RO_add⟩
theorem lk_4_104 : x_LV 4 104 mPK_takePieces 0 := ⟨x_tb3 (List.mem_of_getElem? (i := 126) rfl), x_tb3 (List.mem_of_getElem? (i := 128) rfl), x_sel (q := (⟨"RowPacker$Packer", "takePieces", "()V"⟩, _)) (List.mem_append_left _ (List.mem_of_getElem? (i := 2) rfl)), lb_PK_takePieces⟩
theorem lk_4_152 : x_LV 4 152 mPK_takePiece 0 := ⟨x_tb3 (List.mem_of_getElem? (i := 130) rfl), x_tb3 (List.mem_of_getElem? (i := 132) rfl), x_sel (q := (⟨"RowPacker$Packer", "takePiece", "()V"⟩, _)) (List.mem_append_left _ (List.mem_of_getElem? (i := 3) rfl)), lb_PK_takePiece⟩
theorem lk_4_155 : x_LV 4 155 mFI_find 1 := ⟨x_tb3 (List.mem_of_getElem? (i := 134) rfl), x_tb3 (List.mem_of_getElem? (i := 135) rfl), x_tb3 (List.mem_of_getElem? (i := 136) rfl), lb_FI_find⟩
theorem lk_2_39 : x_LV 2 39 mFI_enterPlacesBefore 1 := ⟨x_tb3 (List.mem_of_getElem? (i := 138) rfl), x_tb3 (List.mem_of_getElem? (i := 140) rfl), x_sel (q := (⟨"RowPacker$Finder", "enterPlacesBefore", "(I)V"⟩, _)) (List.mem_append_left _ (List.mem_of_getElem? (i := 4) rfl)), lb_FI_enterPlacesBefore⟩
theorem lk_2_58 : x_LV 2 58 mFI_keyAt 1 := ⟨x_tb3 (List.mem_of_getElem? (i := 142) rfl), x_tb3 (List.mem_of_getElem? (i := 144) rfl), x_sel (q := (⟨"RowPacker$Finder", "keyAt", "(I)I"⟩, _)) (List.mem_append_left _ (List.mem_of_getElem? (i := 5) rfl)), lb_FI_keyAt⟩
theorem lk_2_48 : x_LS 2 48 mMA_min 2 := ⟨x_tb3 (List.mem_of_getElem? (i := 147) rfl), x_tb3 (List.mem_of_getElem? (i := 148) rfl), lb_MA_min⟩
theorem lk_2_54 : x_LV 2 54 mFI_search 2 := ⟨x_tb3 (List.mem_of_getElem? (i := 150) rfl), x_tb3 (List.mem_of_getElem? (i := 152) rfl), x_sel (q := (⟨"RowPacker$Finder", "search", "(II)V"⟩, _)) (List.mem_append_left _ (List.mem_of_getElem? (i := 6) rfl)), lb_FI_search⟩
theorem lk_2_67 : x_LS 2 67 mMA_max 2 := ⟨x_tb3 (List.mem_of_getElem? (i := 154) rfl), x_tb3 (List.mem_of_getElem? (i := 155) rfl), lb_MA_max⟩
theorem lk_2_70 : x_LV 2 70 mFI_sameBytes 3 := ⟨x_tb3 (List.mem_of_getElem? (i := 157) rfl), x_tb3 (List.mem_of_getElem? (i := 159) rfl), x_sel (q := (⟨"RowPacker$Finder", "sameBytes", "(III)I"⟩, _)) (List.mem_append_left _ (List.mem_of_getElem? (i := 7) rfl)), lb_FI_sameBytes⟩
theorem lk_4_164 : x_LV 4 164 mPK_takeStretch 2 := ⟨x_tb3 (List.mem_of_getElem? (i := 161) rfl), x_tb3 (List.mem_of_getElem? (i := 163) rfl), x_sel (q := (⟨"RowPacker$Packer", "takeStretch", "(II)V"⟩, _)) (List.mem_append_left _ (List.mem_of_getElem? (i := 8) rfl)), lb_PK_takeStretch⟩
theorem lk_4_173 : x_LSN 4 173 mRP_lengthSymbol 1 := ⟨x_tb3 (List.mem_of_getElem? (i := 165) rfl), x_tb3 (List.mem_of_getElem? (i := 166) rfl), lb_RP_lengthSymbol⟩
theorem lk_0_119 : x_LS 0 119 mRP_bitsAbove 2 := ⟨x_tb3 (List.mem_of_getElem? (i := 168) rfl), x_tb3 (List.mem_of_getElem? (i := 169) rfl), lb_RP_bitsAbove⟩
theorem lk_4_176 : x_LSN 4 176 mRP_distanceSymbol 1 := ⟨x_tb3 (List.mem_of_getElem? (i := 171) rfl), x_tb3 (List.mem_of_getElem? (i := 172) rfl), lb_RP_distanceSymbol⟩
theorem lk_4_179 : x_LSN 4 179 mRP_lengthBits 1 := ⟨x_tb3 (List.mem_of_getElem? (i := 174) rfl), x_tb3 (List.mem_of_getElem? (i := 175) rfl), lb_RP_lengthBits⟩
theorem lk_4_182 : x_LSN 4 182 mRP_distanceBits 1 := ⟨x_tb3 (List.mem_of_getElem? (i := 177) rfl), x_tb3 (List.mem_of_getElem? (i := 178) rfl), lb_RP_distanceBits⟩
theorem lk_4_167 : x_LV 4 167 mPK_takeByte 0 := ⟨x_tb3 (List.mem_of_getElem? (i := 180) rfl), x_tb3 (List.mem_of_getElem? (i := 182) rfl), x_sel (q := (⟨"RowPacker$Packer", "takeByte", "()V"⟩, _)) (List.mem_append_left _ (List.mem_of_getElem? (i := 9) rfl)), lb_PK_takeByte⟩
theorem lk_4_170 : x_LV 4 170 mRO_byteAt 1 := ⟨x_tb3 (List.mem_of_getElem? (i := 184) rfl), x_tb3 (List.mem_of_getElem? (i := 89) rfl), x_tb3 (List.mem_of_getElem? (i := 90) rfl), lb_RO_byteAt⟩
theorem lk_4_110 : x_LV 4 110 mMC_make 2 := ⟨x_tb3 (List.mem_of_getElem? (i := 185) rfl), x_tb3 (List.mem_of_getElem? (i := 186) rfl), x_tb3 (List.mem_of_getElem? (i := 187) rfl), lb_MC_make⟩
theorem lk_3_48 : x_LV 3 48 mWE_makeLengths 3 := ⟨x_tb3 (List.mem_of_getElem? (i := 189) rfl), x_tb3 (List.mem_of_getElem? (i := 190) rfl), x_tb3 (List.mem_of_getElem? (i := 191) rfl), lb_WE_makeLengths⟩
theorem lk_10_28 : x_LV 10 28 mWE_sortSymbols 1 := ⟨x_tb3 (List.mem_of_getElem? (i := 193) rfl), x_tb3 (List.mem_of_getElem? (i := 195) rfl), x_sel (q := (⟨"RowPacker$Weigher", "sortSymbols", "([I)V"⟩, _)) (List.mem_append_left _ (List.mem_of_getElem? (i := 10) rfl)), lb_WE_sortSymbols⟩
theorem lk_10_32 : x_LS 10 32 mAR_fill 2 := ⟨x_tb3 (List.mem_of_getElem? (i := 197) rfl), x_tb2 (List.mem_of_getElem? (i := 17) rfl), lb_AR_fill⟩
theorem lk_10_42 : x_LV 10 42 mWE_makeRow 2 := ⟨x_tb3 (List.mem_of_getElem? (i := 198) rfl), x_tb3 (List.mem_of_getElem? (i := 200) rfl), x_sel (q := (⟨"RowPacker$Weigher", "makeRow", "(II)I"⟩, _)) (List.mem_append_left _ (List.mem_of_getElem? (i := 11) rfl)), lb_WE_makeRow⟩
theorem lk_10_46 : x_LV 10 46 mWE_countSymbols 2 := ⟨x_tb3 (List.mem_of_getElem? (i := 202) rfl), x_tb3 (List.mem_of_getElem? (i := 204) rfl), x_sel (q := (⟨"RowPacker$Weigher", "countSymbols", "(I[I)V"⟩, _)) (List.mem_append_left _ (List.mem_of_getElem? (i := 12) rfl)), lb_WE_countSymbols⟩
theorem lk_3_52 : x_LV 3 52 mWC_manyWithCode 0 := ⟨x_tb3 (List.mem_of_getElem? (i := 206) rfl), x_tb3 (List.mem_of_getElem? (i := 207) rfl), x_tb3 (List.mem_of_getElem? (i := 208) rfl), lb_WC_manyWithCode⟩
theorem lk_3_60 : x_LS 3 60 mMA_max 2 := ⟨x_tb3 (List.mem_of_getElem? (i := 210) rfl), x_tb3 (List.mem_of_getElem? (i := 155) rfl), lb_MA_max⟩
-- RowPacker$MadeCodes 69 -> ('java/lang/System', 'arraycopy', '(Ljava/lang/Object;ILjava/lang/Object;II)V')
theorem lk_3_75 : x_LV 3 75 mMC_tellRow 1 := ⟨x_tb3 (List.mem_of_getElem? (i := 214) rfl), x_tb3 (List.mem_of_getElem? (i := 216) rfl), x_sel (q := (⟨"RowPacker$MadeCodes", "tellRow", "(I)V"⟩, _)) (List.mem_append_left _ (List.mem_of_getElem? (i := 13) rfl)), lb_MC_tellRow⟩
theorem lk_3_107 : x_LV 3 107 mMC_tellRun 2 := ⟨x_tb3 (List.mem_of_getElem? (i := 218) rfl), x_tb3 (List.mem_of_getElem? (i := 220) rfl), x_sel (q := (⟨"RowPacker$MadeCodes", "tellRun", "(II)V"⟩, _)) (List.mem_append_left _ (List.mem_of_getElem? (i := 14) rfl)), lb_MC_tellRun⟩
theorem lk_3_110 : x_LV 3 110 mMC_tell 2 := ⟨x_tb3 (List.mem_of_getElem? (i := 222) rfl), x_tb3 (List.mem_of_getElem? (i := 224) rfl), x_sel (q := (⟨"RowPacker$MadeCodes", "tell", "(II)V"⟩, _)) (List.mem_append_left _ (List.mem_of_getElem? (i := 15) rfl)), lb_MC_tell⟩
theorem lk_3_113 : x_LS 3 113 mMA_min 2 := ⟨x_tb3 (List.mem_of_getElem? (i := 226) rfl), x_tb3 (List.mem_of_getElem? (i := 148) rfl), lb_MA_min⟩
theorem lk_3_78 : x_LV 3 78 mMC_weighTold 0 := ⟨x_tb3 (List.mem_of_getElem? (i := 227) rfl), x_tb3 (List.mem_of_getElem? (i := 229) rfl), x_sel (q := (⟨"RowPacker$MadeCodes", "weighTold", "()V"⟩, _)) (List.mem_append_right _ (List.mem_append_left _ (List.mem_of_getElem? (i := 0) rfl))), lb_MC_weighTold⟩
theorem lk_3_116 : x_LS 3 116 mAR_fill 2 := ⟨x_tb3 (List.mem_of_getElem? (i := 231) rfl), x_tb2 (List.mem_of_getElem? (i := 17) rfl), lb_AR_fill⟩
theorem lk_4_119 : x_LV 4 119 mPK_writeBlock 1 := ⟨x_tb3 (List.mem_of_getElem? (i := 234) rfl), x_tb3 (List.mem_of_getElem? (i := 236) rfl), x_sel (q := (⟨"RowPacker$Packer", "writeBlock", "(Z)V"⟩, _)) (List.mem_append_right _ (List.mem_append_left _ (List.mem_of_getElem? (i := 1) rfl))), lb_PK_writeBlock⟩
theorem lk_4_188 : x_LV 4 188 mBW_bitsWritten 0 := ⟨x_tb3 (List.mem_of_getElem? (i := 238) rfl), x_tb3 (List.mem_of_getElem? (i := 239) rfl), x_tb4 (List.mem_of_getElem? (i := 0) rfl), lb_BW_bitsWritten⟩
theorem lk_4_192 : x_LV 4 192 mPK_fewestBits 1 := ⟨x_tb4 (List.mem_of_getElem? (i := 2) rfl), x_tb4 (List.mem_of_getElem? (i := 4) rfl), x_sel (q := (⟨"RowPacker$Packer", "fewestBits", "(I)I"⟩, _)) (List.mem_append_right _ (List.mem_append_left _ (List.mem_of_getElem? (i := 2) rfl))), lb_PK_fewestBits⟩
theorem lk_4_216 : x_LV 4 216 mWC_bitsFor 1 := ⟨x_tb4 (List.mem_of_getElem? (i := 6) rfl), x_tb4 (List.mem_of_getElem? (i := 7) rfl), x_tb4 (List.mem_of_getElem? (i := 8) rfl), lb_WC_bitsFor⟩
theorem lk_4_220 : x_LV 4 220 mMC_bitsOfTelling 0 := ⟨x_tb4 (List.mem_of_getElem? (i := 10) rfl), x_tb4 (List.mem_of_getElem? (i := 11) rfl), x_tb4 (List.mem_of_getElem? (i := 12) rfl), lb_MC_bitsOfTelling⟩
theorem lk_3_90 : x_LS 3 90 mMC_numberBits 1 := ⟨x_tb4 (List.mem_of_getElem? (i := 14) rfl), x_tb4 (List.mem_of_getElem? (i := 15) rfl), lb_MC_numberBits⟩
theorem lk_4_195 : x_LV 4 195 mPK_writePlain 0 := ⟨x_tb4 (List.mem_of_getElem? (i := 17) rfl), x_tb4 (List.mem_of_getElem? (i := 19) rfl), x_sel (q := (⟨"RowPacker$Packer", "writePlain", "()V"⟩, _)) (List.mem_append_right _ (List.mem_append_left _ (List.mem_of_getElem? (i := 3) rfl))), lb_PK_writePlain⟩
theorem lk_4_123 : x_LV 4 123 mBW_fillByte 0 := ⟨x_tb4 (List.mem_of_getElem? (i := 21) rfl), x_tb4 (List.mem_of_getElem? (i := 22) rfl), x_tb4 (List.mem_of_getElem? (i := 23) rfl), lb_BW_fillByte⟩
theorem lk_1_29 : x_LV 1 29 mBW_writeNumber 2 := ⟨x_tb4 (List.mem_of_getElem? (i := 25) rfl), x_tb3 (List.mem_of_getElem? (i := 121) rfl), x_tb3 (List.mem_of_getElem? (i := 122) rfl), lb_BW_writeNumber⟩
theorem lk_4_198 : x_LV 4 198 mPK_writePieces 2 := ⟨x_tb4 (List.mem_of_getElem? (i := 27) rfl), x_tb4 (List.mem_of_getElem? (i := 29) rfl), x_sel (q := (⟨"RowPacker$Packer", "writePieces", "(LRowPacker$WriteCode;LRowPacker$WriteCode;)V"⟩, _)) (List.mem_append_right _ (List.mem_append_left _ (List.mem_of_getElem? (i := 4) rfl))), lb_PK_writePieces⟩
theorem lk_4_224 : x_LV 4 224 mBW_writeSymbol 2 := ⟨x_tb4 (List.mem_of_getElem? (i := 31) rfl), x_tb4 (List.mem_of_getElem? (i := 32) rfl), x_tb4 (List.mem_of_getElem? (i := 33) rfl), lb_BW_writeSymbol⟩
theorem lk_4_228 : x_LSN 4 228 mRP_lengthBase 1 := ⟨x_tb4 (List.mem_of_getElem? (i := 35) rfl), x_tb4 (List.mem_of_getElem? (i := 36) rfl), lb_RP_lengthBase⟩
theorem lk_0_116 : x_LS 0 116 mRP_lengthBits 1 := ⟨x_tb4 (List.mem_of_getElem? (i := 38) rfl), x_tb3 (List.mem_of_getElem? (i := 175) rfl), lb_RP_lengthBits⟩
theorem lk_4_231 : x_LSN 4 231 mRP_distanceBase 1 := ⟨x_tb4 (List.mem_of_getElem? (i := 39) rfl), x_tb4 (List.mem_of_getElem? (i := 40) rfl), lb_RP_distanceBase⟩
theorem lk_0_123 : x_LS 0 123 mRP_distanceBits 1 := ⟨x_tb4 (List.mem_of_getElem? (i := 42) rfl), x_tb3 (List.mem_of_getElem? (i := 178) rfl), lb_RP_distanceBits⟩
theorem lk_4_208 : x_LV 4 208 mMC_writeTelling 1 := ⟨x_tb4 (List.mem_of_getElem? (i := 43) rfl), x_tb4 (List.mem_of_getElem? (i := 44) rfl), x_tb4 (List.mem_of_getElem? (i := 45) rfl), lb_MC_writeTelling⟩
theorem lk_3_94 : x_LV 3 94 mWC_makeWords 0 := ⟨x_tb4 (List.mem_of_getElem? (i := 47) rfl), x_tb2 (List.mem_of_getElem? (i := 20) rfl), x_tb2 (List.mem_of_getElem? (i := 21) rfl), lb_WC_makeWords⟩
theorem lk_3_97 : x_LV 3 97 mBW_writeNumber 2 := ⟨x_tb4 (List.mem_of_getElem? (i := 48) rfl), x_tb3 (List.mem_of_getElem? (i := 121) rfl), x_tb3 (List.mem_of_getElem? (i := 122) rfl), lb_BW_writeNumber⟩
theorem lk_3_103 : x_LV 3 103 mBW_writeSymbol 2 := ⟨x_tb4 (List.mem_of_getElem? (i := 49) rfl), x_tb4 (List.mem_of_getElem? (i := 32) rfl), x_tb4 (List.mem_of_getElem? (i := 33) rfl), lb_BW_writeSymbol⟩
theorem lk_4_212 : x_LV 4 212 mRE_addBlock 4 := ⟨x_tb4 (List.mem_of_getElem? (i := 50) rfl), x_tb4 (List.mem_of_getElem? (i := 51) rfl), x_tb4 (List.mem_of_getElem? (i := 52) rfl), lb_RE_addBlock⟩
theorem lk_4_126 : x_LV 4 126 mPK_writeTail 1 := ⟨x_tb4 (List.mem_of_getElem? (i := 54) rfl), x_tb4 (List.mem_of_getElem? (i := 56) rfl), x_sel (q := (⟨"RowPacker$Packer", "writeTail", "(I)V"⟩, _)) (List.mem_append_right _ (List.mem_append_left _ (List.mem_of_getElem? (i := 5) rfl))), lb_PK_writeTail⟩
theorem lk_4_133 : x_LV 4 133 mSU_sumA 3 := ⟨x_tb4 (List.mem_of_getElem? (i := 58) rfl), x_tb4 (List.mem_of_getElem? (i := 59) rfl), x_tb4 (List.mem_of_getElem? (i := 60) rfl), lb_SU_sumA⟩
theorem lk_8_14 : x_LV 8 14 mRO_byteAt 1 := ⟨x_tb4 (List.mem_of_getElem? (i := 62) rfl), x_tb3 (List.mem_of_getElem? (i := 89) rfl), x_tb3 (List.mem_of_getElem? (i := 90) rfl), lb_RO_byteAt⟩
theorem lk_4_139 : x_LV 4 139 mBW_writeFour 2 := ⟨x_tb4 (List.mem_of_getElem? (i := 65) rfl), x_tb4 (List.mem_of_getElem? (i := 66) rfl), x_tb4 (List.mem_of_getElem? (i := 67) rfl), lb_BW_writeFour⟩
theorem lk_4_143 : x_LV 4 143 mSU_sumB 3 := ⟨x_tb4 (List.mem_of_getElem? (i := 69) rfl), x_tb4 (List.mem_of_getElem? (i := 70) rfl), x_tb4 (List.mem_of_getElem? (i := 71) rfl), lb_SU_sumB⟩
-- RowPackerLaw 79 -> ('RowPackerLaw', 'unpack', '(LRowPacker;I[J)I')
theorem lk_16_34 : x_LV 16 34 mRP_unpack 1 := ⟨x_tb4 (List.mem_of_getElem? (i := 77) rfl), x_tb4 (List.mem_of_getElem? (i := 78) rfl), x_tb4 (List.mem_of_getElem? (i := 79) rfl), lb_RP_unpack⟩
theorem lk_0_84 : x_LV 0 84 mUN_unpackTape 1 := ⟨x_tb4 (List.mem_of_getElem? (i := 81) rfl), x_tb4 (List.mem_of_getElem? (i := 82) rfl), x_tb4 (List.mem_of_getElem? (i := 83) rfl), lb_UN_unpackTape⟩
theorem lk_9_63 : x_LV 9 63 mRE_clear 0 := ⟨x_tb4 (List.mem_of_getElem? (i := 85) rfl), x_tb3 (List.mem_of_getElem? (i := 104) rfl), x_tb3 (List.mem_of_getElem? (i := 105) rfl), lb_RE_clear⟩
theorem lk_9_84 : x_LV 9 84 mUN_readHead 1 := ⟨x_tb4 (List.mem_of_getElem? (i := 87) rfl), x_tb4 (List.mem_of_getElem? (i := 89) rfl), x_sel (q := (⟨"RowPacker$Unpacker", "readHead", "(I)Z"⟩, _)) (List.mem_append_right _ (List.mem_append_left _ (List.mem_of_getElem? (i := 6) rfl))), lb_UN_readHead⟩
theorem lk_9_105 : x_LV 9 105 mUN_readShortHead 0 := ⟨x_tb4 (List.mem_of_getElem? (i := 91) rfl), x_tb4 (List.mem_of_getElem? (i := 93) rfl), x_sel (q := (⟨"RowPacker$Unpacker", "readShortHead", "()Z"⟩, _)) (List.mem_append_right _ (List.mem_append_left _ (List.mem_of_getElem? (i := 7) rfl))), lb_UN_readShortHead⟩
theorem lk_9_111 : x_LV 9 111 mUN_readNumber 1 := ⟨x_tb4 (List.mem_of_getElem? (i := 95) rfl), x_tb4 (List.mem_of_getElem? (i := 97) rfl), x_sel (q := (⟨"RowPacker$Unpacker", "readNumber", "(I)I"⟩, _)) (List.mem_append_right _ (List.mem_append_left _ (List.mem_of_getElem? (i := 8) rfl))), lb_UN_readNumber⟩
theorem lk_9_98 : x_LV 9 98 mUN_fail 2 := ⟨x_tb4 (List.mem_of_getElem? (i := 99) rfl), x_tb4 (List.mem_of_getElem? (i := 101) rfl), x_sel (q := (⟨"RowPacker$Unpacker", "fail", "(II)Z"⟩, _)) (List.mem_append_right _ (List.mem_append_left _ (List.mem_of_getElem? (i := 9) rfl))), lb_UN_fail⟩
theorem lk_9_108 : x_LV 9 108 mUN_readLongHead 0 := ⟨x_tb4 (List.mem_of_getElem? (i := 103) rfl), x_tb4 (List.mem_of_getElem? (i := 105) rfl), x_sel (q := (⟨"RowPacker$Unpacker", "readLongHead", "()Z"⟩, _)) (List.mem_append_right _ (List.mem_append_left _ (List.mem_of_getElem? (i := 10) rfl))), lb_UN_readLongHead⟩
theorem lk_9_114 : x_LV 9 114 mUN_readByteThatIs 1 := ⟨x_tb4 (List.mem_of_getElem? (i := 107) rfl), x_tb4 (List.mem_of_getElem? (i := 109) rfl), x_sel (q := (⟨"RowPacker$Unpacker", "readByteThatIs", "(I)Z"⟩, _)) (List.mem_append_right _ (List.mem_append_left _ (List.mem_of_getElem? (i := 11) rfl))), lb_UN_readByteThatIs⟩
theorem lk_9_117 : x_LV 9 117 mUN_skipBytes 1 := ⟨x_tb4 (List.mem_of_getElem? (i := 111) rfl), x_tb4 (List.mem_of_getElem? (i := 113) rfl), x_sel (q := (⟨"RowPacker$Unpacker", "skipBytes", "(I)Z"⟩, _)) (List.mem_append_right _ (List.mem_append_left _ (List.mem_of_getElem? (i := 12) rfl))), lb_UN_skipBytes⟩
theorem lk_9_120 : x_LV 9 120 mUN_skipThroughZero 0 := ⟨x_tb4 (List.mem_of_getElem? (i := 115) rfl), x_tb4 (List.mem_of_getElem? (i := 117) rfl), x_sel (q := (⟨"RowPacker$Unpacker", "skipThroughZero", "()Z"⟩, _)) (List.mem_append_right _ (List.mem_append_left _ (List.mem_of_getElem? (i := 13) rfl))), lb_UN_skipThroughZero⟩
theorem lk_9_141 : x_LV 9 141 mRO_byteAt 1 := ⟨x_tb4 (List.mem_of_getElem? (i := 119) rfl), x_tb3 (List.mem_of_getElem? (i := 89) rfl), x_tb3 (List.mem_of_getElem? (i := 90) rfl), lb_RO_byteAt⟩
theorem lk_9_123 : x_LV 9 123 mUN_readSumOfHead 1 := ⟨x_tb4 (List.mem_of_getElem? (i := 120) rfl), x_tb4 (List.mem_of_getElem? (i := 122) rfl), x_sel (q := (⟨"RowPacker$Unpacker", "readSumOfHead", "(I)Z"⟩, _)) (List.mem_append_right _ (List.mem_append_left _ (List.mem_of_getElem? (i := 14) rfl))), lb_UN_readSumOfHead⟩
theorem lk_9_126 : x_LV 9 126 mSU_sumB 3 := ⟨x_tb4 (List.mem_of_getElem? (i := 124) rfl), x_tb4 (List.mem_of_getElem? (i := 70) rfl), x_tb4 (List.mem_of_getElem? (i := 71) rfl), lb_SU_sumB⟩
theorem lk_9_88 : x_LV 9 88 mUN_readBlocks 0 := ⟨x_tb4 (List.mem_of_getElem? (i := 126) rfl), x_tb4 (List.mem_of_getElem? (i := 128) rfl), x_sel (q := (⟨"RowPacker$Unpacker", "readBlocks", "()Z"⟩, _)) (List.mem_append_right _ (List.mem_append_left _ (List.mem_of_getElem? (i := 15) rfl))), lb_UN_readBlocks⟩
theorem lk_9_158 : x_LV 9 158 mUN_readPlain 0 := ⟨x_tb4 (List.mem_of_getElem? (i := 131) rfl), x_tb4 (List.mem_of_getElem? (i := 133) rfl), x_sel (q := (⟨"RowPacker$Unpacker", "readPlain", "()Z"⟩, _)) (List.mem_append_right _ (List.mem_append_right _ (List.mem_append_left _ (List.mem_of_getElem? (i := 0) rfl)))), lb_UN_readPlain⟩
theorem lk_9_172 : x_LV 9 172 mUN_goToNextByte 0 := ⟨x_tb4 (List.mem_of_getElem? (i := 135) rfl), x_tb4 (List.mem_of_getElem? (i := 137) rfl), x_sel (q := (⟨"RowPacker$Unpacker", "goToNextByte", "()V"⟩, _)) (List.mem_append_right _ (List.mem_append_right _ (List.mem_append_left _ (List.mem_of_getElem? (i := 1) rfl)))), lb_UN_goToNextByte⟩
-- RowPacker$Unpacker 177 -> ('java/lang/System', 'arraycopy', '(Ljava/lang/Object;ILjava/lang/Object;II)V')
theorem lk_9_161 : x_LV 9 161 mUN_readSymbols 2 := ⟨x_tb4 (List.mem_of_getElem? (i := 142) rfl), x_tb4 (List.mem_of_getElem? (i := 144) rfl), x_sel (q := (⟨"RowPacker$Unpacker", "readSymbols", "(LRowPacker$ReadCode;LRowPacker$ReadCode;)Z"⟩, _)) (List.mem_append_right _ (List.mem_append_right _ (List.mem_append_left _ (List.mem_of_getElem? (i := 2) rfl)))), lb_UN_readSymbols⟩
theorem lk_9_201 : x_LV 9 201 mUN_readSymbol 1 := ⟨x_tb4 (List.mem_of_getElem? (i := 146) rfl), x_tb4 (List.mem_of_getElem? (i := 148) rfl), x_sel (q := (⟨"RowPacker$Unpacker", "readSymbol", "(LRowPacker$ReadCode;)I"⟩, _)) (List.mem_append_right _ (List.mem_append_right _ (List.mem_append_left _ (List.mem_of_getElem? (i := 3) rfl)))), lb_UN_readSymbol⟩
theorem lk_9_205 : x_LV 9 205 mUN_readStretch 3 := ⟨x_tb4 (List.mem_of_getElem? (i := 150) rfl), x_tb4 (List.mem_of_getElem? (i := 152) rfl), x_sel (q := (⟨"RowPacker$Unpacker", "readStretch", "(IILRowPacker$ReadCode;)Z"⟩, _)) (List.mem_append_right _ (List.mem_append_right _ (List.mem_append_left _ (List.mem_of_getElem? (i := 4) rfl)))), lb_UN_readStretch⟩
theorem lk_9_213 : x_LSN 9 213 mRP_lengthBits 1 := ⟨x_tb4 (List.mem_of_getElem? (i := 154) rfl), x_tb3 (List.mem_of_getElem? (i := 175) rfl), lb_RP_lengthBits⟩
theorem lk_9_216 : x_LSN 9 216 mRP_distanceBits 1 := ⟨x_tb4 (List.mem_of_getElem? (i := 155) rfl), x_tb3 (List.mem_of_getElem? (i := 178) rfl), lb_RP_distanceBits⟩
theorem lk_9_219 : x_LSN 9 219 mRP_lengthBase 1 := ⟨x_tb4 (List.mem_of_getElem? (i := 156) rfl), x_tb4 (List.mem_of_getElem? (i := 36) rfl), lb_RP_lengthBase⟩
theorem lk_9_222 : x_LSN 9 222 mRP_distanceBase 1 := ⟨x_tb4 (List.mem_of_getElem? (i := 157) rfl), x_tb4 (List.mem_of_getElem? (i := 40) rfl), lb_RP_distanceBase⟩
theorem lk_9_225 : x_LV 9 225 mRO_repeat 2 := ⟨x_tb4 (List.mem_of_getElem? (i := 158) rfl), x_tb3 (List.mem_of_getElem? (i := 62) rfl), x_tb3 (List.mem_of_getElem? (i := 63) rfl), lb_RO_repeat⟩
theorem lk_9_209 : x_LV 9 209 mRO_add 1 := ⟨x_tb4 (List.mem_of_getElem? (i := 159) rfl), x_tb3 (List.mem_of_getElem? (i := 28) rfl), x_tb3 (List.mem_of_getElem? (i := 29) rfl), lb_RO_add⟩
theorem lk_9_165 : x_LV 9 165 mUN_readCodes 0 := ⟨x_tb4 (List.mem_of_getElem? (i := 160) rfl), x_tb4 (List.mem_of_getElem? (i := 162) rfl), x_sel (q := (⟨"RowPacker$Unpacker", "readCodes", "()Z"⟩, _)) (List.mem_append_right _ (List.mem_append_right _ (List.mem_append_left _ (List.mem_of_getElem? (i := 5) rfl)))), lb_UN_readCodes⟩
theorem lk_9_183 : x_LV 9 183 mUN_readCodeOfLengths 0 := ⟨x_tb4 (List.mem_of_getElem? (i := 164) rfl), x_tb4 (List.mem_of_getElem? (i := 166) rfl), x_sel (q := (⟨"RowPacker$Unpacker", "readCodeOfLengths", "()Z"⟩, _)) (List.mem_append_right _ (List.mem_append_right _ (List.mem_append_left _ (List.mem_of_getElem? (i := 6) rfl)))), lb_UN_readCodeOfLengths⟩
theorem lk_9_195 : x_LS 9 195 mAR_fill2 4 := ⟨x_tb4 (List.mem_of_getElem? (i := 168) rfl), x_tb4 (List.mem_of_getElem? (i := 169) rfl), lb_AR_fill2⟩
theorem lk_17_13 : x_LS 17 13 mAR_rangeCheck 3 := ⟨x_tb4 (List.mem_of_getElem? (i := 171) rfl), x_tb4 (List.mem_of_getElem? (i := 172) rfl), lb_AR_rangeCheck⟩
-- java/util/Arrays 47 -> ('java/lang/StringBuilder', '<init>', '()V')
-- java/util/Arrays 50 -> ('java/lang/StringBuilder', 'append', '(Ljava/lang/String;)Ljava/lang/StringBuilder;')
-- java/util/Arrays 310 -> ('[B', 'clone', '()Ljava/lang/Object;')
theorem lk_17_304 : x_LS 17 304 mMA_min 2 := ⟨x_tb5 (List.mem_of_getElem? (i := 5) rfl), x_tb3 (List.mem_of_getElem? (i := 148) rfl), lb_MA_min⟩
-- java/util/Arrays 150 -> ('java/lang/System', 'arraycopy', '(Ljava/lang/Object;ILjava/lang/Object;II)V')
-- java/util/Arrays 54 -> ('java/lang/StringBuilder', 'append', '(I)Ljava/lang/StringBuilder;')
-- java/util/Arrays 61 -> ('java/lang/StringBuilder', 'toString', '()Ljava/lang/String;')
-- java/util/Arrays 339 -> ('java/util/Arrays', 'copyOfRangeByte', '([BII)[B')
-- java/util/Arrays 343 -> ('java/util/Arrays', 'checkLength', '(II)V')
-- java/util/Arrays 65 -> ('java/lang/IllegalArgumentException', '<init>', '(Ljava/lang/String;)V')
-- java/lang/IllegalArgumentException 7 -> ('java/lang/RuntimeException', '<init>', '(Ljava/lang/String;)V')
-- java/util/Arrays 70 -> ('java/lang/ArrayIndexOutOfBoundsException', '<init>', '(I)V')
-- java/lang/IndexOutOfBoundsException 7 -> ('java/lang/RuntimeException', '<init>', '(Ljava/lang/String;)V')
theorem lk_9_189 : x_LV 9 189 mRC_isFull 0 := ⟨x_tb5 (List.mem_of_getElem? (i := 204) rfl), x_tb5 (List.mem_of_getElem? (i := 205) rfl), x_tb5 (List.mem_of_getElem? (i := 206) rfl), lb_RC_isFull⟩
theorem lk_9_186 : x_LV 9 186 mUN_readLengths 1 := ⟨x_tb5 (List.mem_of_getElem? (i := 209) rfl), x_tb5 (List.mem_of_getElem? (i := 211) rfl), x_sel (q := (⟨"RowPacker$Unpacker", "readLengths", "(I)Z"⟩, _)) (List.mem_append_right _ (List.mem_append_right _ (List.mem_append_left _ (List.mem_of_getElem? (i := 7) rfl)))), lb_UN_readLengths⟩
theorem lk_9_192 : x_LV 9 192 mRC_servesDistances 0 := ⟨x_tb5 (List.mem_of_getElem? (i := 213) rfl), x_tb5 (List.mem_of_getElem? (i := 214) rfl), x_tb5 (List.mem_of_getElem? (i := 215) rfl), lb_RC_servesDistances⟩
theorem lk_5_32 : x_LV 5 32 mRC_isFull 0 := ⟨x_tb5 (List.mem_of_getElem? (i := 217) rfl), x_tb5 (List.mem_of_getElem? (i := 205) rfl), x_tb5 (List.mem_of_getElem? (i := 206) rfl), lb_RC_isFull⟩
theorem lk_9_168 : x_LV 9 168 mRE_addBlock 4 := ⟨x_tb5 (List.mem_of_getElem? (i := 218) rfl), x_tb4 (List.mem_of_getElem? (i := 51) rfl), x_tb4 (List.mem_of_getElem? (i := 52) rfl), lb_RE_addBlock⟩
theorem lk_9_92 : x_LV 9 92 mUN_readTail 1 := ⟨x_tb5 (List.mem_of_getElem? (i := 219) rfl), x_tb5 (List.mem_of_getElem? (i := 221) rfl), x_sel (q := (⟨"RowPacker$Unpacker", "readTail", "(I)Z"⟩, _)) (List.mem_append_right _ (List.mem_append_right _ (List.mem_append_left _ (List.mem_of_getElem? (i := 8) rfl)))), lb_UN_readTail⟩
theorem lk_9_134 : x_LV 9 134 mSU_sumA 3 := ⟨x_tb5 (List.mem_of_getElem? (i := 223) rfl), x_tb4 (List.mem_of_getElem? (i := 59) rfl), x_tb4 (List.mem_of_getElem? (i := 60) rfl), lb_SU_sumA⟩
theorem lk_9_137 : x_LV 9 137 mUN_readFourThatAre 3 := ⟨x_tb5 (List.mem_of_getElem? (i := 224) rfl), x_tb5 (List.mem_of_getElem? (i := 226) rfl), x_sel (q := (⟨"RowPacker$Unpacker", "readFourThatAre", "(JZI)Z"⟩, _)) (List.mem_append_right _ (List.mem_append_right _ (List.mem_append_left _ (List.mem_of_getElem? (i := 9) rfl)))), lb_UN_readFourThatAre⟩
-- RowPackerLaw 94 -> ('RowPackerLaw', 'out', '(LRowPacker;I[J)I')
theorem lk_16_37 : x_LV 16 37 mRP_out 1 := ⟨x_tb5 (List.mem_of_getElem? (i := 231) rfl), x_tb5 (List.mem_of_getElem? (i := 232) rfl), x_tb5 (List.mem_of_getElem? (i := 233) rfl), lb_RP_out⟩
-- RowPackerLaw 97 -> ('RowPackerLaw', 'turn', '(LRowPacker;[J)I')
theorem lk_16_40 : x_LV 16 40 mRP_turn 0 := ⟨x_tb5 (List.mem_of_getElem? (i := 238) rfl), x_tb5 (List.mem_of_getElem? (i := 239) rfl), x_tb6 (List.mem_of_getElem? (i := 0) rfl), lb_RP_turn⟩
-- RowPacker 93 -> ('java/lang/System', 'arraycopy', '(Ljava/lang/Object;ILjava/lang/Object;II)V')
-- RowPackerLaw 101 -> ('RowPackerLaw', 'sum', '(LRowPacker;I[J)I')
theorem lk_16_44 : x_LV 16 44 mRP_sum 1 := ⟨x_tb6 (List.mem_of_getElem? (i := 6) rfl), x_tb6 (List.mem_of_getElem? (i := 7) rfl), x_tb6 (List.mem_of_getElem? (i := 8) rfl), lb_RP_sum⟩
theorem lk_0_99 : x_LV 0 99 mSU_sumA 3 := ⟨x_tb6 (List.mem_of_getElem? (i := 10) rfl), x_tb4 (List.mem_of_getElem? (i := 59) rfl), x_tb4 (List.mem_of_getElem? (i := 60) rfl), lb_SU_sumA⟩
theorem lk_0_103 : x_LV 0 103 mSU_sumB 3 := ⟨x_tb6 (List.mem_of_getElem? (i := 11) rfl), x_tb4 (List.mem_of_getElem? (i := 70) rfl), x_tb4 (List.mem_of_getElem? (i := 71) rfl), lb_SU_sumB⟩
-- RowPackerLaw 108 -> ('RowPackerLaw', 'block', '(LRowPacker;II[J)I')
theorem lk_16_48 : x_LV 16 48 mRP_block 2 := ⟨x_tb6 (List.mem_of_getElem? (i := 15) rfl), x_tb6 (List.mem_of_getElem? (i := 16) rfl), x_tb6 (List.mem_of_getElem? (i := 17) rfl), lb_RP_block⟩
theorem lk_16_54 : x_LI 16 54 mMO_init 0 := ⟨x_tb6 (List.mem_of_getElem? (i := 21) rfl), x_tb6 (List.mem_of_getElem? (i := 22) rfl), rfl, rfl, lb_MO_init⟩
theorem lo_12_1 : Cond.methodLink (x_cn 12) 1 Lib.objectInit ∈ x_tw := x_tb6 (List.mem_of_getElem? (i := 24) rfl)
theorem lk_16_61 : x_LV 16 61 mMO_thrown 0 := ⟨x_tb6 (List.mem_of_getElem? (i := 131) rfl), x_tb6 (List.mem_of_getElem? (i := 132) rfl), x_tb6 (List.mem_of_getElem? (i := 133) rfl), lb_MO_thrown⟩
theorem lk_16_60 : x_LV 16 60 mMO_feed 5 := ⟨x_tb6 (List.mem_of_getElem? (i := 135) rfl), x_tb6 (List.mem_of_getElem? (i := 136) rfl), x_tb6 (List.mem_of_getElem? (i := 137) rfl), lb_MO_feed⟩
theorem lk_12_85 : x_LV 12 85 mMO_type 1 := ⟨x_tb6 (List.mem_of_getElem? (i := 139) rfl), x_tb6 (List.mem_of_getElem? (i := 141) rfl), x_sel (q := (⟨"RowPackerModel", "type", "(I)V"⟩, _)) (List.mem_append_right _ (List.mem_append_right _ (List.mem_append_left _ (List.mem_of_getElem? (i := 10) rfl)))), lb_MO_type⟩
theorem lk_16_67 : x_LV 16 67 mMO_end 1 := ⟨x_tb6 (List.mem_of_getElem? (i := 143) rfl), x_tb6 (List.mem_of_getElem? (i := 144) rfl), x_tb6 (List.mem_of_getElem? (i := 145) rfl), lb_MO_end⟩
theorem lk_16_71 : x_LV 16 71 mMO_again 2 := ⟨x_tb6 (List.mem_of_getElem? (i := 147) rfl), x_tb6 (List.mem_of_getElem? (i := 148) rfl), x_tb6 (List.mem_of_getElem? (i := 149) rfl), lb_MO_again⟩
theorem lk_16_74 : x_LV 16 74 mMO_change 2 := ⟨x_tb6 (List.mem_of_getElem? (i := 151) rfl), x_tb6 (List.mem_of_getElem? (i := 152) rfl), x_tb6 (List.mem_of_getElem? (i := 153) rfl), lb_MO_change⟩
theorem lk_16_103 : x_LV 16 103 mMO_sum 1 := ⟨x_tb6 (List.mem_of_getElem? (i := 155) rfl), x_tb6 (List.mem_of_getElem? (i := 156) rfl), x_tb6 (List.mem_of_getElem? (i := 157) rfl), lb_MO_sum⟩
theorem lk_12_101 : x_LS 12 101 mMO_sumA 3 := ⟨x_tb6 (List.mem_of_getElem? (i := 159) rfl), x_tb6 (List.mem_of_getElem? (i := 160) rfl), lb_MO_sumA⟩
theorem lk_12_105 : x_LS 12 105 mMO_sumB 3 := ⟨x_tb6 (List.mem_of_getElem? (i := 164) rfl), x_tb6 (List.mem_of_getElem? (i := 165) rfl), lb_MO_sumB⟩
theorem lk_16_81 : x_LV 16 81 mMO_unpack 1 := ⟨x_tb6 (List.mem_of_getElem? (i := 171) rfl), x_tb6 (List.mem_of_getElem? (i := 172) rfl), x_tb6 (List.mem_of_getElem? (i := 173) rfl), lb_MO_unpack⟩
theorem lk_12_219 : x_LV 12 219 mMO_clear 0 := ⟨x_tb6 (List.mem_of_getElem? (i := 175) rfl), x_tb6 (List.mem_of_getElem? (i := 177) rfl), x_sel (q := (⟨"RowPackerModel", "clear", "()V"⟩, _)) (List.mem_append_right _ (List.mem_append_right _ (List.mem_append_left _ (List.mem_of_getElem? (i := 11) rfl)))), lb_MO_clear⟩
theorem lk_12_193 : x_LV 12 193 mMO_readBlocks 0 := ⟨x_tb6 (List.mem_of_getElem? (i := 179) rfl), x_tb6 (List.mem_of_getElem? (i := 181) rfl), x_sel (q := (⟨"RowPackerModel", "readBlocks", "()V"⟩, _)) (List.mem_append_right _ (List.mem_append_right _ (List.mem_append_left _ (List.mem_of_getElem? (i := 12) rfl)))), lb_MO_readBlocks⟩
theorem lk_12_125 : x_LV 12 125 mMO_bit 0 := ⟨x_tb6 (List.mem_of_getElem? (i := 183) rfl), x_tb6 (List.mem_of_getElem? (i := 185) rfl), x_sel (q := (⟨"RowPackerModel", "bit", "()I"⟩, _)) (List.mem_append_right _ (List.mem_append_right _ (List.mem_append_left _ (List.mem_of_getElem? (i := 13) rfl)))), lb_MO_bit⟩
theorem lk_12_121 : x_LV 12 121 mMO_fail 2 := ⟨x_tb6 (List.mem_of_getElem? (i := 187) rfl), x_tb6 (List.mem_of_getElem? (i := 189) rfl), x_sel (q := (⟨"RowPackerModel", "fail", "(II)V"⟩, _)) (List.mem_append_right _ (List.mem_append_right _ (List.mem_append_left _ (List.mem_of_getElem? (i := 14) rfl)))), lb_MO_fail⟩
theorem lk_12_133 : x_LV 12 133 mMO_number 1 := ⟨x_tb6 (List.mem_of_getElem? (i := 191) rfl), x_tb6 (List.mem_of_getElem? (i := 193) rfl), x_sel (q := (⟨"RowPackerModel", "number", "(I)I"⟩, _)) (List.mem_append_right _ (List.mem_append_right _ (List.mem_append_left _ (List.mem_of_getElem? (i := 15) rfl)))), lb_MO_number⟩
theorem lk_12_174 : x_LV 12 174 mMO_readPlain 0 := ⟨x_tb6 (List.mem_of_getElem? (i := 195) rfl), x_tb6 (List.mem_of_getElem? (i := 197) rfl), x_sel (q := (⟨"RowPackerModel", "readPlain", "()V"⟩, _)) (List.mem_append_right _ (List.mem_append_right _ (List.mem_append_right _ (List.mem_append_left _ (List.mem_of_getElem? (i := 0) rfl))))), lb_MO_readPlain⟩
theorem lk_12_167 : x_LV 12 167 mMO_toByte 0 := ⟨x_tb6 (List.mem_of_getElem? (i := 199) rfl), x_tb6 (List.mem_of_getElem? (i := 201) rfl), x_sel (q := (⟨"RowPackerModel", "toByte", "()V"⟩, _)) (List.mem_append_right _ (List.mem_append_right _ (List.mem_append_right _ (List.mem_append_left _ (List.mem_of_getElem? (i := 1) rfl))))), lb_MO_toByte⟩
theorem lk_12_155 : x_LV 12 155 mMO_put 1 := ⟨x_tb6 (List.mem_of_getElem? (i := 204) rfl), x_tb6 (List.mem_of_getElem? (i := 206) rfl), x_sel (q := (⟨"RowPackerModel", "put", "(I)V"⟩, _)) (List.mem_append_right _ (List.mem_append_right _ (List.mem_append_right _ (List.mem_append_left _ (List.mem_of_getElem? (i := 2) rfl))))), lb_MO_put⟩
theorem lk_12_177 : x_LV 12 177 mMO_plainLengths 0 := ⟨x_tb6 (List.mem_of_getElem? (i := 208) rfl), x_tb6 (List.mem_of_getElem? (i := 210) rfl), x_sel (q := (⟨"RowPackerModel", "plainLengths", "()V"⟩, _)) (List.mem_append_right _ (List.mem_append_right _ (List.mem_append_right _ (List.mem_append_left _ (List.mem_of_getElem? (i := 3) rfl))))), lb_MO_plainLengths⟩
theorem lk_12_139 : x_LV 12 139 mMO_prepare 3 := ⟨x_tb6 (List.mem_of_getElem? (i := 212) rfl), x_tb6 (List.mem_of_getElem? (i := 214) rfl), x_sel (q := (⟨"RowPackerModel", "prepare", "(III)I"⟩, _)) (List.mem_append_right _ (List.mem_append_right _ (List.mem_append_right _ (List.mem_append_left _ (List.mem_of_getElem? (i := 4) rfl))))), lb_MO_prepare⟩
theorem lk_12_180 : x_LV 12 180 mMO_readCodes 0 := ⟨x_tb6 (List.mem_of_getElem? (i := 216) rfl), x_tb6 (List.mem_of_getElem? (i := 218) rfl), x_sel (q := (⟨"RowPackerModel", "readCodes", "()I"⟩, _)) (List.mem_append_right _ (List.mem_append_right _ (List.mem_append_right _ (List.mem_append_left _ (List.mem_of_getElem? (i := 5) rfl))))), lb_MO_readCodes⟩
theorem lk_12_136 : x_LS 12 136 mMO_orderOf 1 := ⟨x_tb6 (List.mem_of_getElem? (i := 220) rfl), x_tb6 (List.mem_of_getElem? (i := 221) rfl), lb_MO_orderOf⟩
theorem lk_12_143 : x_LV 12 143 mMO_readRow 1 := ⟨x_tb6 (List.mem_of_getElem? (i := 223) rfl), x_tb6 (List.mem_of_getElem? (i := 225) rfl), x_sel (q := (⟨"RowPackerModel", "readRow", "(I)V"⟩, _)) (List.mem_append_right _ (List.mem_append_right _ (List.mem_append_right _ (List.mem_append_left _ (List.mem_of_getElem? (i := 6) rfl))))), lb_MO_readRow⟩
theorem lk_12_129 : x_LV 12 129 mMO_symbol 2 := ⟨x_tb6 (List.mem_of_getElem? (i := 227) rfl), x_tb6 (List.mem_of_getElem? (i := 229) rfl), x_sel (q := (⟨"RowPackerModel", "symbol", "(II)I"⟩, _)) (List.mem_append_right _ (List.mem_append_right _ (List.mem_append_right _ (List.mem_append_left _ (List.mem_of_getElem? (i := 7) rfl))))), lb_MO_symbol⟩
theorem lk_12_183 : x_LV 12 183 mMO_readSymbols 1 := ⟨x_tb6 (List.mem_of_getElem? (i := 231) rfl), x_tb6 (List.mem_of_getElem? (i := 233) rfl), x_sel (q := (⟨"RowPackerModel", "readSymbols", "(I)V"⟩, _)) (List.mem_append_right _ (List.mem_append_right _ (List.mem_append_right _ (List.mem_append_left _ (List.mem_of_getElem? (i := 8) rfl))))), lb_MO_readSymbols⟩
theorem lk_12_108 : x_LS 12 108 mMO_leastLength 1 := ⟨x_tb6 (List.mem_of_getElem? (i := 235) rfl), x_tb6 (List.mem_of_getElem? (i := 236) rfl), lb_MO_leastLength⟩
theorem lk_12_158 : x_LS 12 158 mMO_lengthBits 1 := ⟨x_tb6 (List.mem_of_getElem? (i := 238) rfl), x_tb6 (List.mem_of_getElem? (i := 239) rfl), lb_MO_lengthBits⟩
theorem lk_12_161 : x_LV 12 161 mMO_distance 1 := ⟨x_tb7 (List.mem_of_getElem? (i := 1) rfl), x_tb7 (List.mem_of_getElem? (i := 3) rfl), x_sel (q := (⟨"RowPackerModel", "distance", "(I)I"⟩, _)) (List.mem_append_right _ (List.mem_append_right _ (List.mem_append_right _ (List.mem_append_left _ (List.mem_of_getElem? (i := 9) rfl))))), lb_MO_distance⟩
theorem lk_12_112 : x_LS 12 112 mMO_leastDistance 1 := ⟨x_tb7 (List.mem_of_getElem? (i := 5) rfl), x_tb7 (List.mem_of_getElem? (i := 6) rfl), lb_MO_leastDistance⟩
theorem lk_12_149 : x_LS 12 149 mMO_distanceBits 1 := ⟨x_tb7 (List.mem_of_getElem? (i := 8) rfl), x_tb7 (List.mem_of_getElem? (i := 9) rfl), lb_MO_distanceBits⟩
theorem lk_12_186 : x_LV 12 186 mMO_note 4 := ⟨x_tb7 (List.mem_of_getElem? (i := 11) rfl), x_tb7 (List.mem_of_getElem? (i := 13) rfl), x_sel (q := (⟨"RowPackerModel", "note", "(IIII)V"⟩, _)) (List.mem_append_right _ (List.mem_append_right _ (List.mem_append_right _ (List.mem_append_left _ (List.mem_of_getElem? (i := 10) rfl))))), lb_MO_note⟩
theorem lk_12_198 : x_LV 12 198 mMO_wantEnd 0 := ⟨x_tb7 (List.mem_of_getElem? (i := 15) rfl), x_tb7 (List.mem_of_getElem? (i := 17) rfl), x_sel (q := (⟨"RowPackerModel", "wantEnd", "()V"⟩, _)) (List.mem_append_right _ (List.mem_append_right _ (List.mem_append_right _ (List.mem_append_left _ (List.mem_of_getElem? (i := 11) rfl))))), lb_MO_wantEnd⟩
theorem lk_12_222 : x_LV 12 222 mMO_readShort 0 := ⟨x_tb7 (List.mem_of_getElem? (i := 19) rfl), x_tb7 (List.mem_of_getElem? (i := 21) rfl), x_sel (q := (⟨"RowPackerModel", "readShort", "()V"⟩, _)) (List.mem_append_right _ (List.mem_append_right _ (List.mem_append_right _ (List.mem_append_left _ (List.mem_of_getElem? (i := 12) rfl))))), lb_MO_readShort⟩
theorem lk_12_190 : x_LV 12 190 mMO_wrapped 0 := ⟨x_tb7 (List.mem_of_getElem? (i := 23) rfl), x_tb7 (List.mem_of_getElem? (i := 25) rfl), x_sel (q := (⟨"RowPackerModel", "wrapped", "()I"⟩, _)) (List.mem_append_right _ (List.mem_append_right _ (List.mem_append_right _ (List.mem_append_left _ (List.mem_of_getElem? (i := 13) rfl))))), lb_MO_wrapped⟩
theorem lk_12_225 : x_LV 12 225 mMO_readLong 0 := ⟨x_tb7 (List.mem_of_getElem? (i := 28) rfl), x_tb7 (List.mem_of_getElem? (i := 30) rfl), x_sel (q := (⟨"RowPackerModel", "readLong", "()V"⟩, _)) (List.mem_append_right _ (List.mem_append_right _ (List.mem_append_right _ (List.mem_append_left _ (List.mem_of_getElem? (i := 14) rfl))))), lb_MO_readLong⟩
theorem lk_12_212 : x_LV 12 212 mMO_readHead 0 := ⟨x_tb7 (List.mem_of_getElem? (i := 32) rfl), x_tb7 (List.mem_of_getElem? (i := 34) rfl), x_sel (q := (⟨"RowPackerModel", "readHead", "()V"⟩, _)) (List.mem_append_right _ (List.mem_append_right _ (List.mem_append_right _ (List.mem_append_left _ (List.mem_of_getElem? (i := 15) rfl))))), lb_MO_readHead⟩
theorem lk_12_201 : x_LV 12 201 mMO_want 1 := ⟨x_tb7 (List.mem_of_getElem? (i := 36) rfl), x_tb7 (List.mem_of_getElem? (i := 38) rfl), x_sel (q := (⟨"RowPackerModel", "want", "(I)V"⟩, _)) (List.mem_append_right _ (List.mem_append_right _ (List.mem_append_right _ (List.mem_append_right _ (List.mem_append_left _ (List.mem_of_getElem? (i := 0) rfl)))))), lb_MO_want⟩
theorem lk_12_204 : x_LV 12 204 mMO_skip 1 := ⟨x_tb7 (List.mem_of_getElem? (i := 40) rfl), x_tb7 (List.mem_of_getElem? (i := 42) rfl), x_sel (q := (⟨"RowPackerModel", "skip", "(I)V"⟩, _)) (List.mem_append_right _ (List.mem_append_right _ (List.mem_append_right _ (List.mem_append_right _ (List.mem_append_left _ (List.mem_of_getElem? (i := 1) rfl)))))), lb_MO_skip⟩
theorem lk_12_207 : x_LV 12 207 mMO_skipText 0 := ⟨x_tb7 (List.mem_of_getElem? (i := 44) rfl), x_tb7 (List.mem_of_getElem? (i := 46) rfl), x_sel (q := (⟨"RowPackerModel", "skipText", "()V"⟩, _)) (List.mem_append_right _ (List.mem_append_right _ (List.mem_append_right _ (List.mem_append_right _ (List.mem_append_left _ (List.mem_of_getElem? (i := 2) rfl)))))), lb_MO_skipText⟩
theorem lk_12_215 : x_LV 12 215 mMO_four 0 := ⟨x_tb7 (List.mem_of_getElem? (i := 49) rfl), x_tb7 (List.mem_of_getElem? (i := 51) rfl), x_sel (q := (⟨"RowPackerModel", "four", "()J"⟩, _)) (List.mem_append_right _ (List.mem_append_right _ (List.mem_append_right _ (List.mem_append_right _ (List.mem_append_left _ (List.mem_of_getElem? (i := 3) rfl)))))), lb_MO_four⟩
theorem lk_16_78 : x_LV 16 78 mMO_pack 1 := ⟨x_tb7 (List.mem_of_getElem? (i := 53) rfl), x_tb7 (List.mem_of_getElem? (i := 54) rfl), x_tb7 (List.mem_of_getElem? (i := 55) rfl), lb_MO_pack⟩
theorem lk_12_294 : x_LV 12 294 mMO_putNumber 2 := ⟨x_tb7 (List.mem_of_getElem? (i := 57) rfl), x_tb7 (List.mem_of_getElem? (i := 59) rfl), x_sel (q := (⟨"RowPackerModel", "putNumber", "(II)V"⟩, _)) (List.mem_append_right _ (List.mem_append_right _ (List.mem_append_right _ (List.mem_append_right _ (List.mem_append_left _ (List.mem_of_getElem? (i := 4) rfl)))))), lb_MO_putNumber⟩
theorem lk_12_231 : x_LV 12 231 mMO_putBit 1 := ⟨x_tb7 (List.mem_of_getElem? (i := 61) rfl), x_tb7 (List.mem_of_getElem? (i := 63) rfl), x_sel (q := (⟨"RowPackerModel", "putBit", "(I)V"⟩, _)) (List.mem_append_right _ (List.mem_append_right _ (List.mem_append_right _ (List.mem_append_right _ (List.mem_append_left _ (List.mem_of_getElem? (i := 5) rfl)))))), lb_MO_putBit⟩
theorem lk_12_319 : x_LV 12 319 mMO_putBlocks 0 := ⟨x_tb7 (List.mem_of_getElem? (i := 65) rfl), x_tb7 (List.mem_of_getElem? (i := 67) rfl), x_sel (q := (⟨"RowPackerModel", "putBlocks", "()V"⟩, _)) (List.mem_append_right _ (List.mem_append_right _ (List.mem_append_right _ (List.mem_append_right _ (List.mem_append_left _ (List.mem_of_getElem? (i := 6) rfl)))))), lb_MO_putBlocks⟩
theorem lk_12_312 : x_LV 12 312 mMO_stretchOf 1 := ⟨x_tb7 (List.mem_of_getElem? (i := 69) rfl), x_tb7 (List.mem_of_getElem? (i := 71) rfl), x_sel (q := (⟨"RowPackerModel", "stretchOf", "(I)I"⟩, _)) (List.mem_append_right _ (List.mem_append_right _ (List.mem_append_right _ (List.mem_append_right _ (List.mem_append_left _ (List.mem_of_getElem? (i := 7) rfl)))))), lb_MO_stretchOf⟩
theorem lk_12_228 : x_LV 12 228 mMO_same 2 := ⟨x_tb7 (List.mem_of_getElem? (i := 73) rfl), x_tb7 (List.mem_of_getElem? (i := 75) rfl), x_sel (q := (⟨"RowPackerModel", "same", "(II)I"⟩, _)) (List.mem_append_right _ (List.mem_append_right _ (List.mem_append_right _ (List.mem_append_right _ (List.mem_append_left _ (List.mem_of_getElem? (i := 8) rfl)))))), lb_MO_same⟩
theorem lk_12_315 : x_LV 12 315 mMO_putBlock 3 := ⟨x_tb7 (List.mem_of_getElem? (i := 77) rfl), x_tb7 (List.mem_of_getElem? (i := 79) rfl), x_sel (q := (⟨"RowPackerModel", "putBlock", "(IIZ)V"⟩, _)) (List.mem_append_right _ (List.mem_append_right _ (List.mem_append_right _ (List.mem_append_right _ (List.mem_append_left _ (List.mem_of_getElem? (i := 9) rfl)))))), lb_MO_putBlock⟩
theorem lk_12_285 : x_LV 12 285 mMO_pieceBits 0 := ⟨x_tb7 (List.mem_of_getElem? (i := 81) rfl), x_tb7 (List.mem_of_getElem? (i := 83) rfl), x_sel (q := (⟨"RowPackerModel", "pieceBits", "()I"⟩, _)) (List.mem_append_right _ (List.mem_append_right _ (List.mem_append_right _ (List.mem_append_right _ (List.mem_append_left _ (List.mem_of_getElem? (i := 10) rfl)))))), lb_MO_pieceBits⟩
theorem lk_12_245 : x_LS 12 245 mMO_lengthSymbol 1 := ⟨x_tb7 (List.mem_of_getElem? (i := 85) rfl), x_tb7 (List.mem_of_getElem? (i := 86) rfl), lb_MO_lengthSymbol⟩
theorem lk_12_248 : x_LS 12 248 mMO_distanceSymbol 1 := ⟨x_tb7 (List.mem_of_getElem? (i := 88) rfl), x_tb7 (List.mem_of_getElem? (i := 89) rfl), lb_MO_distanceSymbol⟩
theorem lk_12_303 : x_LV 12 303 mMO_plan 0 := ⟨x_tb7 (List.mem_of_getElem? (i := 91) rfl), x_tb7 (List.mem_of_getElem? (i := 93) rfl), x_sel (q := (⟨"RowPackerModel", "plan", "()I"⟩, _)) (List.mem_append_right _ (List.mem_append_right _ (List.mem_append_right _ (List.mem_append_right _ (List.mem_append_left _ (List.mem_of_getElem? (i := 11) rfl)))))), lb_MO_plan⟩
theorem lk_12_260 : x_LV 12 260 mMO_weigh 0 := ⟨x_tb7 (List.mem_of_getElem? (i := 95) rfl), x_tb7 (List.mem_of_getElem? (i := 97) rfl), x_sel (q := (⟨"RowPackerModel", "weigh", "()V"⟩, _)) (List.mem_append_right _ (List.mem_append_right _ (List.mem_append_right _ (List.mem_append_right _ (List.mem_append_left _ (List.mem_of_getElem? (i := 12) rfl)))))), lb_MO_weigh⟩
theorem lk_12_263 : x_LV 12 263 mMO_byWeights 3 := ⟨x_tb7 (List.mem_of_getElem? (i := 99) rfl), x_tb7 (List.mem_of_getElem? (i := 101) rfl), x_sel (q := (⟨"RowPackerModel", "byWeights", "(III)V"⟩, _)) (List.mem_append_right _ (List.mem_append_right _ (List.mem_append_right _ (List.mem_append_right _ (List.mem_append_left _ (List.mem_of_getElem? (i := 13) rfl)))))), lb_MO_byWeights⟩
theorem lk_12_234 : x_LS 12 234 mMO_isBefore 4 := ⟨x_tb7 (List.mem_of_getElem? (i := 103) rfl), x_tb7 (List.mem_of_getElem? (i := 104) rfl), lb_MO_isBefore⟩
theorem lk_12_238 : x_LV 12 238 mMO_layRows 3 := ⟨x_tb7 (List.mem_of_getElem? (i := 106) rfl), x_tb7 (List.mem_of_getElem? (i := 108) rfl), x_sel (q := (⟨"RowPackerModel", "layRows", "(III)V"⟩, _)) (List.mem_append_right _ (List.mem_append_right _ (List.mem_append_right _ (List.mem_append_right _ (List.mem_append_left _ (List.mem_of_getElem? (i := 14) rfl)))))), lb_MO_layRows⟩
theorem lk_12_266 : x_LS 12 266 mMO_lastOf 3 := ⟨x_tb7 (List.mem_of_getElem? (i := 110) rfl), x_tb7 (List.mem_of_getElem? (i := 111) rfl), lb_MO_lastOf⟩
theorem lk_12_276 : x_LV 12 276 mMO_tellRow 1 := ⟨x_tb7 (List.mem_of_getElem? (i := 113) rfl), x_tb7 (List.mem_of_getElem? (i := 115) rfl), x_sel (q := (⟨"RowPackerModel", "tellRow", "(I)V"⟩, _)) (List.mem_append_right _ (List.mem_append_right _ (List.mem_append_right _ (List.mem_append_right _ (List.mem_append_left _ (List.mem_of_getElem? (i := 15) rfl)))))), lb_MO_tellRow⟩
theorem lk_12_254 : x_LV 12 254 mMO_run 2 := ⟨x_tb7 (List.mem_of_getElem? (i := 117) rfl), x_tb7 (List.mem_of_getElem? (i := 119) rfl), x_sel (q := (⟨"RowPackerModel", "run", "(II)I"⟩, _)) (List.mem_append_right _ (List.mem_append_right _ (List.mem_append_right _ (List.mem_append_right _ (List.mem_append_right _ (List.mem_of_getElem? (i := 0) rfl)))))), lb_MO_run⟩
theorem lk_12_257 : x_LV 12 257 mMO_tell 2 := ⟨x_tb7 (List.mem_of_getElem? (i := 121) rfl), x_tb7 (List.mem_of_getElem? (i := 123) rfl), x_sel (q := (⟨"RowPackerModel", "tell", "(II)V"⟩, _)) (List.mem_append_right _ (List.mem_append_right _ (List.mem_append_right _ (List.mem_append_right _ (List.mem_append_right _ (List.mem_of_getElem? (i := 1) rfl)))))), lb_MO_tell⟩
theorem lk_12_282 : x_LS 12 282 mMO_toldBits 1 := ⟨x_tb7 (List.mem_of_getElem? (i := 125) rfl), x_tb7 (List.mem_of_getElem? (i := 126) rfl), lb_MO_toldBits⟩
theorem lk_12_306 : x_LV 12 306 mMO_putPlain 2 := ⟨x_tb7 (List.mem_of_getElem? (i := 128) rfl), x_tb7 (List.mem_of_getElem? (i := 130) rfl), x_sel (q := (⟨"RowPackerModel", "putPlain", "(II)V"⟩, _)) (List.mem_append_right _ (List.mem_append_right _ (List.mem_append_right _ (List.mem_append_right _ (List.mem_append_right _ (List.mem_of_getElem? (i := 2) rfl)))))), lb_MO_putPlain⟩
theorem lk_12_297 : x_LV 12 297 mMO_pad 0 := ⟨x_tb7 (List.mem_of_getElem? (i := 132) rfl), x_tb7 (List.mem_of_getElem? (i := 134) rfl), x_sel (q := (⟨"RowPackerModel", "pad", "()V"⟩, _)) (List.mem_append_right _ (List.mem_append_right _ (List.mem_append_right _ (List.mem_append_right _ (List.mem_append_right _ (List.mem_of_getElem? (i := 3) rfl)))))), lb_MO_pad⟩
theorem lk_12_300 : x_LV 12 300 mMO_putPieces 0 := ⟨x_tb7 (List.mem_of_getElem? (i := 136) rfl), x_tb7 (List.mem_of_getElem? (i := 138) rfl), x_sel (q := (⟨"RowPackerModel", "putPieces", "()V"⟩, _)) (List.mem_append_right _ (List.mem_append_right _ (List.mem_append_right _ (List.mem_append_right _ (List.mem_append_right _ (List.mem_of_getElem? (i := 4) rfl)))))), lb_MO_putPieces⟩
theorem lk_12_288 : x_LV 12 288 mMO_makeCodes 2 := ⟨x_tb7 (List.mem_of_getElem? (i := 140) rfl), x_tb7 (List.mem_of_getElem? (i := 142) rfl), x_sel (q := (⟨"RowPackerModel", "makeCodes", "(II)V"⟩, _)) (List.mem_append_right _ (List.mem_append_right _ (List.mem_append_right _ (List.mem_append_right _ (List.mem_append_right _ (List.mem_of_getElem? (i := 5) rfl)))))), lb_MO_makeCodes⟩
theorem lk_12_291 : x_LV 12 291 mMO_putCode 1 := ⟨x_tb7 (List.mem_of_getElem? (i := 144) rfl), x_tb7 (List.mem_of_getElem? (i := 146) rfl), x_sel (q := (⟨"RowPackerModel", "putCode", "(I)V"⟩, _)) (List.mem_append_right _ (List.mem_append_right _ (List.mem_append_right _ (List.mem_append_right _ (List.mem_append_right _ (List.mem_of_getElem? (i := 6) rfl)))))), lb_MO_putCode⟩
theorem lk_12_309 : x_LV 12 309 mMO_putPlanned 0 := ⟨x_tb7 (List.mem_of_getElem? (i := 148) rfl), x_tb7 (List.mem_of_getElem? (i := 150) rfl), x_sel (q := (⟨"RowPackerModel", "putPlanned", "()V"⟩, _)) (List.mem_append_right _ (List.mem_append_right _ (List.mem_append_right _ (List.mem_append_right _ (List.mem_append_right _ (List.mem_of_getElem? (i := 7) rfl)))))), lb_MO_putPlanned⟩
theorem lk_12_322 : x_LV 12 322 mMO_putFour 1 := ⟨x_tb7 (List.mem_of_getElem? (i := 152) rfl), x_tb7 (List.mem_of_getElem? (i := 154) rfl), x_sel (q := (⟨"RowPackerModel", "putFour", "(J)V"⟩, _)) (List.mem_append_right _ (List.mem_append_right _ (List.mem_append_right _ (List.mem_append_right _ (List.mem_append_right _ (List.mem_of_getElem? (i := 8) rfl)))))), lb_MO_putFour⟩
theorem lk_16_85 : x_LV 16 85 mMO_fault 0 := ⟨x_tb7 (List.mem_of_getElem? (i := 156) rfl), x_tb7 (List.mem_of_getElem? (i := 157) rfl), x_tb7 (List.mem_of_getElem? (i := 158) rfl), lb_MO_fault⟩
theorem lk_16_89 : x_LV 16 89 mMO_place 0 := ⟨x_tb7 (List.mem_of_getElem? (i := 160) rfl), x_tb7 (List.mem_of_getElem? (i := 161) rfl), x_tb7 (List.mem_of_getElem? (i := 162) rfl), lb_MO_place⟩
theorem lk_16_93 : x_LV 16 93 mMO_size 0 := ⟨x_tb7 (List.mem_of_getElem? (i := 164) rfl), x_tb7 (List.mem_of_getElem? (i := 165) rfl), x_tb7 (List.mem_of_getElem? (i := 166) rfl), lb_MO_size⟩
theorem lk_16_96 : x_LV 16 96 mMO_out 1 := ⟨x_tb7 (List.mem_of_getElem? (i := 168) rfl), x_tb7 (List.mem_of_getElem? (i := 169) rfl), x_tb7 (List.mem_of_getElem? (i := 170) rfl), lb_MO_out⟩
theorem lk_16_100 : x_LV 16 100 mMO_turn 0 := ⟨x_tb7 (List.mem_of_getElem? (i := 172) rfl), x_tb7 (List.mem_of_getElem? (i := 173) rfl), x_tb7 (List.mem_of_getElem? (i := 174) rfl), lb_MO_turn⟩
theorem lk_16_107 : x_LV 16 107 mMO_blocks 0 := ⟨x_tb7 (List.mem_of_getElem? (i := 176) rfl), x_tb7 (List.mem_of_getElem? (i := 177) rfl), x_tb7 (List.mem_of_getElem? (i := 178) rfl), lb_MO_blocks⟩
theorem lk_16_110 : x_LV 16 110 mMO_block 2 := ⟨x_tb7 (List.mem_of_getElem? (i := 180) rfl), x_tb7 (List.mem_of_getElem? (i := 181) rfl), x_tb7 (List.mem_of_getElem? (i := 182) rfl), lb_MO_block⟩
theorem lk_16_114 : x_LV 16 114 mMO_stretches 0 := ⟨x_tb7 (List.mem_of_getElem? (i := 184) rfl), x_tb7 (List.mem_of_getElem? (i := 185) rfl), x_tb7 (List.mem_of_getElem? (i := 186) rfl), lb_MO_stretches⟩
theorem lo_i : Cond.instanceMethod Lib.objectInit ∈ x_tw := x_tb1 (List.mem_of_getElem? (i := 38) rfl)
theorem lo_c : Cond.code Lib.objectInit ⟨#[0xb1]⟩ 1 none ∈ x_tw := x_tb1 (List.mem_of_getElem? (i := 39) rfl)
