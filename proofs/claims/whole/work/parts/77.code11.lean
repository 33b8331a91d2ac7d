/-! written by gencode.py: code of DecimalDesk -/
theorem zx_De_80_82_84 : zx_F "DecimalDesk" 80 82 84 "java/lang/IllegalStateException" "the draft is no number text" := ⟨(List.mem_of_getElem? (i := 389) (by decide +kernel)), (List.mem_of_getElem? (i := 69) (by decide +kernel)), (List.mem_of_getElem? (i := 398) (by decide +kernel)), (List.mem_of_getElem? (i := 399) (by decide +kernel))⟩
theorem zx_De_188_190_192 : zx_F "DecimalDesk" 188 190 192 "java/lang/IllegalArgumentException" "a power is 0 .. 999" := ⟨(List.mem_of_getElem? (i := 300) (by decide +kernel)), (List.mem_of_getElem? (i := 68) (by decide +kernel)), (List.mem_of_getElem? (i := 709) (by decide +kernel)), (List.mem_of_getElem? (i := 343) (by decide +kernel))⟩
theorem zx_De_188_245_192 : zx_F "DecimalDesk" 188 245 192 "java/lang/IllegalArgumentException" "a kind is 0 .. 2" := ⟨(List.mem_of_getElem? (i := 300) (by decide +kernel)), (List.mem_of_getElem? (i := 68) (by decide +kernel)), (List.mem_of_getElem? (i := 828) (by decide +kernel)), (List.mem_of_getElem? (i := 343) (by decide +kernel))⟩
theorem zx_De_188_254_192 : zx_F "DecimalDesk" 188 254 192 "java/lang/IllegalArgumentException" "a register is 0 .. 9" := ⟨(List.mem_of_getElem? (i := 300) (by decide +kernel)), (List.mem_of_getElem? (i := 68) (by decide +kernel)), (List.mem_of_getElem? (i := 342) (by decide +kernel)), (List.mem_of_getElem? (i := 343) (by decide +kernel))⟩
theorem zx_De_188_256_192 : zx_F "DecimalDesk" 188 256 192 "java/lang/IllegalArgumentException" "a mode is 0 .. 7" := ⟨(List.mem_of_getElem? (i := 300) (by decide +kernel)), (List.mem_of_getElem? (i := 68) (by decide +kernel)), (List.mem_of_getElem? (i := 593) (by decide +kernel)), (List.mem_of_getElem? (i := 343) (by decide +kernel))⟩
theorem zx_De_188_258_192 : zx_F "DecimalDesk" 188 258 192 "java/lang/IllegalArgumentException" "no such precision" := ⟨(List.mem_of_getElem? (i := 300) (by decide +kernel)), (List.mem_of_getElem? (i := 68) (by decide +kernel)), (List.mem_of_getElem? (i := 674) (by decide +kernel)), (List.mem_of_getElem? (i := 343) (by decide +kernel))⟩
theorem zx_De_188_268_192 : zx_F "DecimalDesk" 188 268 192 "java/lang/IllegalArgumentException" "a scale is -10000 .. 10000" := ⟨(List.mem_of_getElem? (i := 300) (by decide +kernel)), (List.mem_of_getElem? (i := 68) (by decide +kernel)), (List.mem_of_getElem? (i := 597) (by decide +kernel)), (List.mem_of_getElem? (i := 343) (by decide +kernel))⟩
theorem zx_De_196_198_200 : zx_F "DecimalDesk" 196 198 200 "java/lang/ArithmeticException" "a root of less than 0" := ⟨(List.mem_of_getElem? (i := 417) (by decide +kernel)), (List.mem_of_getElem? (i := 70) (by decide +kernel)), (List.mem_of_getElem? (i := 721) (by decide +kernel)), (List.mem_of_getElem? (i := 427) (by decide +kernel))⟩
theorem zx_De_196_270_200 : zx_F "DecimalDesk" 196 270 200 "java/lang/ArithmeticException" "a scale that no register can have" := ⟨(List.mem_of_getElem? (i := 417) (by decide +kernel)), (List.mem_of_getElem? (i := 70) (by decide +kernel)), (List.mem_of_getElem? (i := 426) (by decide +kernel)), (List.mem_of_getElem? (i := 427) (by decide +kernel))⟩
theorem zx_De_196_272_200 : zx_F "DecimalDesk" 196 272 200 "java/lang/ArithmeticException" "more digits than a register can have" := ⟨(List.mem_of_getElem? (i := 417) (by decide +kernel)), (List.mem_of_getElem? (i := 70) (by decide +kernel)), (List.mem_of_getElem? (i := 477) (by decide +kernel)), (List.mem_of_getElem? (i := 427) (by decide +kernel))⟩
theorem zx_De_196_274_200 : zx_F "DecimalDesk" 196 274 200 "java/lang/ArithmeticException" "divided by 0" := ⟨(List.mem_of_getElem? (i := 417) (by decide +kernel)), (List.mem_of_getElem? (i := 70) (by decide +kernel)), (List.mem_of_getElem? (i := 602) (by decide +kernel)), (List.mem_of_getElem? (i := 427) (by decide +kernel))⟩
theorem zx_De_236_238_240 : zx_F "DecimalDesk" 236 238 240 "java/lang/IndexOutOfBoundsException" "there is no such digit" := ⟨(List.mem_of_getElem? (i := 804) (by decide +kernel)), (List.mem_of_getElem? (i := 74) (by decide +kernel)), (List.mem_of_getElem? (i := 813) (by decide +kernel)), (List.mem_of_getElem? (i := 814) (by decide +kernel))⟩
theorem cf_De_add_De_addSigned : zd_cf m_De_add m_De_addSigned 1 := ⟨(List.mem_of_getElem? (i := 555) (by decide +kernel)), by decide +kernel, by decide, by decide, ⟨by decide, by decide⟩, by decide +kernel⟩
theorem cf_De_add_De_align : zd_cf m_De_add m_De_align 2 := ⟨(List.mem_of_getElem? (i := 522) (by decide +kernel)), by decide +kernel, by decide, by decide, ⟨by decide, by decide⟩, by decide +kernel⟩
theorem cf_De_add_De_demandRegisters3 : zd_cf m_De_add m_De_demandRegisters3 3 := ⟨(List.mem_of_getElem? (i := 515) (by decide +kernel)), by decide +kernel, by decide, by decide, ⟨by decide, by decide⟩, by decide +kernel⟩
theorem cf_De_add_De_keep : zd_cf m_De_add m_De_keep 1 := ⟨(List.mem_of_getElem? (i := 469) (by decide +kernel)), by decide +kernel, by decide, by decide, ⟨by decide, by decide⟩, by decide +kernel⟩
theorem cf_De_addSigned_Na_copy : zd_cf m_De_addSigned m_Na_copy 1 := ⟨(List.mem_of_getElem? (i := 485) (by decide +kernel)), by decide +kernel, by decide, by decide, ⟨by decide, by decide⟩, by decide +kernel⟩
theorem cf_De_addSigned_Na_lowerBy : zd_cf m_De_addSigned m_Na_lowerBy 1 := ⟨(List.mem_of_getElem? (i := 571) (by decide +kernel)), by decide +kernel, by decide, by decide, ⟨by decide, by decide⟩, by decide +kernel⟩
theorem cf_De_addSigned_Na_order : zd_cf m_De_addSigned m_Na_order 1 := ⟨(List.mem_of_getElem? (i := 564) (by decide +kernel)), by decide +kernel, by decide, by decide, ⟨by decide, by decide⟩, by decide +kernel⟩
theorem cf_De_addSigned_Na_raiseBy : zd_cf m_De_addSigned m_Na_raiseBy 1 := ⟨(List.mem_of_getElem? (i := 559) (by decide +kernel)), by decide +kernel, by decide, by decide, ⟨by decide, by decide⟩, by decide +kernel⟩
theorem cf_De_align_Ma_max : zd_cf m_De_align m_Ma_max 2 := ⟨(List.mem_of_getElem? (i := 525) (by decide +kernel)), by decide +kernel, by decide, by decide, ⟨by decide, by decide⟩, by decide +kernel⟩
theorem cf_De_align_Na_copy : zd_cf m_De_align m_Na_copy 1 := ⟨(List.mem_of_getElem? (i := 485) (by decide +kernel)), by decide +kernel, by decide, by decide, ⟨by decide, by decide⟩, by decide +kernel⟩
theorem cf_De_align_Na_move : zd_cf m_De_align m_Na_move 1 := ⟨(List.mem_of_getElem? (i := 539) (by decide +kernel)), by decide +kernel, by decide, by decide, ⟨by decide, by decide⟩, by decide +kernel⟩
theorem cf_De_align_Ru_cutTo : zd_cf m_De_align m_Ru_cutTo 1 := ⟨(List.mem_of_getElem? (i := 535) (by decide +kernel)), by decide +kernel, by decide, by decide, ⟨by decide, by decide⟩, by decide +kernel⟩
theorem cf_De_align_Ru_take : zd_cf m_De_align m_Ru_take 1 := ⟨(List.mem_of_getElem? (i := 529) (by decide +kernel)), by decide +kernel, by decide, by decide, ⟨by decide, by decide⟩, by decide +kernel⟩
theorem cf_De_character_Te_at : zd_cf m_De_character m_Te_at 1 := ⟨(List.mem_of_getElem? (i := 286) (by decide +kernel)), by decide +kernel, by decide, by decide, ⟨by decide, by decide⟩, by decide +kernel⟩
theorem cf_De_compare_Dc_sign : zd_cf m_De_compare m_Dc_sign 0 := ⟨(List.mem_of_getElem? (i := 790) (by decide +kernel)), by decide +kernel, by decide, by decide, ⟨by decide, by decide⟩, by decide +kernel⟩
theorem cf_De_compare_De_demandRegisters2 : zd_cf m_De_compare m_De_demandRegisters2 2 := ⟨(List.mem_of_getElem? (i := 518) (by decide +kernel)), by decide +kernel, by decide, by decide, ⟨by decide, by decide⟩, by decide +kernel⟩
theorem cf_De_compare_De_orderOfSizes : zd_cf m_De_compare m_De_orderOfSizes 2 := ⟨(List.mem_of_getElem? (i := 795) (by decide +kernel)), by decide +kernel, by decide, by decide, ⟨by decide, by decide⟩, by decide +kernel⟩
theorem cf_De_compare_In_compare : zd_cf m_De_compare m_In_compare 2 := ⟨(List.mem_of_getElem? (i := 567) (by decide +kernel)), by decide +kernel, by decide, by decide, ⟨by decide, by decide⟩, by decide +kernel⟩
theorem cf_De_demandDigits_Na_digits : zd_cf m_De_demandDigits m_Na_digits 0 := ⟨(List.mem_of_getElem? (i := 476) (by decide +kernel)), by decide +kernel, by decide, by decide, ⟨by decide, by decide⟩, by decide +kernel⟩
theorem cf_De_demandDivisor_Na_isZero : zd_cf m_De_demandDivisor m_Na_isZero 0 := ⟨(List.mem_of_getElem? (i := 492) (by decide +kernel)), by decide +kernel, by decide, by decide, ⟨by decide, by decide⟩, by decide +kernel⟩
theorem cf_De_demandRegisters2_De_demandRegister : zd_cf m_De_demandRegisters2 m_De_demandRegister 1 := ⟨(List.mem_of_getElem? (i := 299) (by decide +kernel)), by decide +kernel, by decide, by decide, ⟨by decide, by decide⟩, by decide +kernel⟩
theorem cf_De_demandRegisters3_De_demandRegister : zd_cf m_De_demandRegisters3 m_De_demandRegister 1 := ⟨(List.mem_of_getElem? (i := 299) (by decide +kernel)), by decide +kernel, by decide, by decide, ⟨by decide, by decide⟩, by decide +kernel⟩
theorem cf_De_demandRegisters3_De_demandRegisters2 : zd_cf m_De_demandRegisters3 m_De_demandRegisters2 2 := ⟨(List.mem_of_getElem? (i := 518) (by decide +kernel)), by decide +kernel, by decide, by decide, ⟨by decide, by decide⟩, by decide +kernel⟩
theorem cf_De_demandScale_De_isScale : zd_cf m_De_demandScale m_De_isScale 1 := ⟨(List.mem_of_getElem? (i := 414) (by decide +kernel)), by decide +kernel, by decide, by decide, ⟨by decide, by decide⟩, by decide +kernel⟩
theorem cf_De_demandWantedScale_De_isScale : zd_cf m_De_demandWantedScale m_De_isScale 1 := ⟨(List.mem_of_getElem? (i := 414) (by decide +kernel)), by decide +kernel, by decide, by decide, ⟨by decide, by decide⟩, by decide +kernel⟩
theorem cf_De_divide_De_demandDivisor : zd_cf m_De_divide m_De_demandDivisor 1 := ⟨(List.mem_of_getElem? (i := 600) (by decide +kernel)), by decide +kernel, by decide, by decide, ⟨by decide, by decide⟩, by decide +kernel⟩
theorem cf_De_divide_De_demandMode : zd_cf m_De_divide m_De_demandMode 1 := ⟨(List.mem_of_getElem? (i := 592) (by decide +kernel)), by decide +kernel, by decide, by decide, ⟨by decide, by decide⟩, by decide +kernel⟩
theorem cf_De_divide_De_demandRegisters3 : zd_cf m_De_divide m_De_demandRegisters3 3 := ⟨(List.mem_of_getElem? (i := 515) (by decide +kernel)), by decide +kernel, by decide, by decide, ⟨by decide, by decide⟩, by decide +kernel⟩
theorem cf_De_divide_De_demandWantedScale : zd_cf m_De_divide m_De_demandWantedScale 1 := ⟨(List.mem_of_getElem? (i := 596) (by decide +kernel)), by decide +kernel, by decide, by decide, ⟨by decide, by decide⟩, by decide +kernel⟩
theorem cf_De_divide_De_divideRough : zd_cf m_De_divide m_De_divideRough 2 := ⟨(List.mem_of_getElem? (i := 606) (by decide +kernel)), by decide +kernel, by decide, by decide, ⟨by decide, by decide⟩, by decide +kernel⟩
theorem cf_De_divide_De_keep : zd_cf m_De_divide m_De_keep 1 := ⟨(List.mem_of_getElem? (i := 469) (by decide +kernel)), by decide +kernel, by decide, by decide, ⟨by decide, by decide⟩, by decide +kernel⟩
theorem cf_De_divide_Ru_dropGuard : zd_cf m_De_divide m_Ru_dropGuard 1 := ⟨(List.mem_of_getElem? (i := 646) (by decide +kernel)), by decide +kernel, by decide, by decide, ⟨by decide, by decide⟩, by decide +kernel⟩
theorem cf_De_divide_Ru_take : zd_cf m_De_divide m_Ru_take 1 := ⟨(List.mem_of_getElem? (i := 529) (by decide +kernel)), by decide +kernel, by decide, by decide, ⟨by decide, by decide⟩, by decide +kernel⟩
theorem cf_De_divideRough_Dv_split : zd_cf m_De_divideRough m_Dv_split 3 := ⟨(List.mem_of_getElem? (i := 610) (by decide +kernel)), by decide +kernel, by decide, by decide, ⟨by decide, by decide⟩, by decide +kernel⟩
theorem cf_De_divideRough_Na_copy : zd_cf m_De_divideRough m_Na_copy 1 := ⟨(List.mem_of_getElem? (i := 485) (by decide +kernel)), by decide +kernel, by decide, by decide, ⟨by decide, by decide⟩, by decide +kernel⟩
theorem cf_De_divideRough_Na_isZero : zd_cf m_De_divideRough m_Na_isZero 0 := ⟨(List.mem_of_getElem? (i := 492) (by decide +kernel)), by decide +kernel, by decide, by decide, ⟨by decide, by decide⟩, by decide +kernel⟩
theorem cf_De_divideRough_Ru_cutTo : zd_cf m_De_divideRough m_Ru_cutTo 1 := ⟨(List.mem_of_getElem? (i := 535) (by decide +kernel)), by decide +kernel, by decide, by decide, ⟨by decide, by decide⟩, by decide +kernel⟩
theorem cf_De_growRough_De_demandDigits : zd_cf m_De_growRough m_De_demandDigits 1 := ⟨(List.mem_of_getElem? (i := 472) (by decide +kernel)), by decide +kernel, by decide, by decide, ⟨by decide, by decide⟩, by decide +kernel⟩
theorem cf_De_growRough_Na_becomeProduct : zd_cf m_De_growRough m_Na_becomeProduct 2 := ⟨(List.mem_of_getElem? (i := 582) (by decide +kernel)), by decide +kernel, by decide, by decide, ⟨by decide, by decide⟩, by decide +kernel⟩
theorem cf_De_growRough_Na_copy : zd_cf m_De_growRough m_Na_copy 1 := ⟨(List.mem_of_getElem? (i := 485) (by decide +kernel)), by decide +kernel, by decide, by decide, ⟨by decide, by decide⟩, by decide +kernel⟩
theorem cf_De_keep_Dc_accept : zd_cf m_De_keep m_Dc_accept 1 := ⟨(List.mem_of_getElem? (i := 481) (by decide +kernel)), by decide +kernel, by decide, by decide, ⟨by decide, by decide⟩, by decide +kernel⟩
theorem cf_De_keep_De_demandDigits : zd_cf m_De_keep m_De_demandDigits 1 := ⟨(List.mem_of_getElem? (i := 472) (by decide +kernel)), by decide +kernel, by decide, by decide, ⟨by decide, by decide⟩, by decide +kernel⟩
theorem cf_De_keep_De_demandScale : zd_cf m_De_keep m_De_demandScale 1 := ⟨(List.mem_of_getElem? (i := 411) (by decide +kernel)), by decide +kernel, by decide, by decide, ⟨by decide, by decide⟩, by decide +kernel⟩
theorem cf_De_multiply_De_demandRegisters3 : zd_cf m_De_multiply m_De_demandRegisters3 3 := ⟨(List.mem_of_getElem? (i := 515) (by decide +kernel)), by decide +kernel, by decide, by decide, ⟨by decide, by decide⟩, by decide +kernel⟩
theorem cf_De_multiply_De_keep : zd_cf m_De_multiply m_De_keep 1 := ⟨(List.mem_of_getElem? (i := 469) (by decide +kernel)), by decide +kernel, by decide, by decide, ⟨by decide, by decide⟩, by decide +kernel⟩
theorem cf_De_multiply_Na_becomeProduct : zd_cf m_De_multiply m_Na_becomeProduct 2 := ⟨(List.mem_of_getElem? (i := 582) (by decide +kernel)), by decide +kernel, by decide, by decide, ⟨by decide, by decide⟩, by decide +kernel⟩
theorem cf_De_multiply_Ru_describe : zd_cf m_De_multiply m_Ru_describe 2 := ⟨(List.mem_of_getElem? (i := 465) (by decide +kernel)), by decide +kernel, by decide, by decide, ⟨by decide, by decide⟩, by decide +kernel⟩
theorem cf_De_negate_De_demandRegisters2 : zd_cf m_De_negate m_De_demandRegisters2 2 := ⟨(List.mem_of_getElem? (i := 518) (by decide +kernel)), by decide +kernel, by decide, by decide, ⟨by decide, by decide⟩, by decide +kernel⟩
theorem cf_De_negate_De_keep : zd_cf m_De_negate m_De_keep 1 := ⟨(List.mem_of_getElem? (i := 469) (by decide +kernel)), by decide +kernel, by decide, by decide, ⟨by decide, by decide⟩, by decide +kernel⟩
theorem cf_De_negate_Ru_take : zd_cf m_De_negate m_Ru_take 1 := ⟨(List.mem_of_getElem? (i := 529) (by decide +kernel)), by decide +kernel, by decide, by decide, ⟨by decide, by decide⟩, by decide +kernel⟩
theorem cf_De_orderOfSizes_De_align : zd_cf m_De_orderOfSizes m_De_align 2 := ⟨(List.mem_of_getElem? (i := 522) (by decide +kernel)), by decide +kernel, by decide, by decide, ⟨by decide, by decide⟩, by decide +kernel⟩
theorem cf_De_orderOfSizes_In_compare : zd_cf m_De_orderOfSizes m_In_compare 2 := ⟨(List.mem_of_getElem? (i := 567) (by decide +kernel)), by decide +kernel, by decide, by decide, ⟨by decide, by decide⟩, by decide +kernel⟩
theorem cf_De_orderOfSizes_Na_digits : zd_cf m_De_orderOfSizes m_Na_digits 0 := ⟨(List.mem_of_getElem? (i := 476) (by decide +kernel)), by decide +kernel, by decide, by decide, ⟨by decide, by decide⟩, by decide +kernel⟩
theorem cf_De_orderOfSizes_Na_order : zd_cf m_De_orderOfSizes m_Na_order 1 := ⟨(List.mem_of_getElem? (i := 564) (by decide +kernel)), by decide +kernel, by decide, by decide, ⟨by decide, by decide⟩, by decide +kernel⟩
theorem cf_De_power_De_demandRegisters2 : zd_cf m_De_power m_De_demandRegisters2 2 := ⟨(List.mem_of_getElem? (i := 518) (by decide +kernel)), by decide +kernel, by decide, by decide, ⟨by decide, by decide⟩, by decide +kernel⟩
theorem cf_De_power_De_growRough : zd_cf m_De_power m_De_growRough 1 := ⟨(List.mem_of_getElem? (i := 713) (by decide +kernel)), by decide +kernel, by decide, by decide, ⟨by decide, by decide⟩, by decide +kernel⟩
theorem cf_De_power_De_keep : zd_cf m_De_power m_De_keep 1 := ⟨(List.mem_of_getElem? (i := 469) (by decide +kernel)), by decide +kernel, by decide, by decide, ⟨by decide, by decide⟩, by decide +kernel⟩
theorem cf_De_power_Na_become : zd_cf m_De_power m_Na_become 1 := ⟨(List.mem_of_getElem? (i := 503) (by decide +kernel)), by decide +kernel, by decide, by decide, ⟨by decide, by decide⟩, by decide +kernel⟩
theorem cf_De_power_Ru_describe : zd_cf m_De_power m_Ru_describe 2 := ⟨(List.mem_of_getElem? (i := 465) (by decide +kernel)), by decide +kernel, by decide, by decide, ⟨by decide, by decide⟩, by decide +kernel⟩
theorem cf_De_put_De_demandRegister : zd_cf m_De_put m_De_demandRegister 1 := ⟨(List.mem_of_getElem? (i := 299) (by decide +kernel)), by decide +kernel, by decide, by decide, ⟨by decide, by decide⟩, by decide +kernel⟩
theorem cf_De_put_De_keep : zd_cf m_De_put m_De_keep 1 := ⟨(List.mem_of_getElem? (i := 469) (by decide +kernel)), by decide +kernel, by decide, by decide, ⟨by decide, by decide⟩, by decide +kernel⟩
theorem cf_De_put_Na_become : zd_cf m_De_put m_Na_become 1 := ⟨(List.mem_of_getElem? (i := 503) (by decide +kernel)), by decide +kernel, by decide, by decide, ⟨by decide, by decide⟩, by decide +kernel⟩
theorem cf_De_put_Ru_describe : zd_cf m_De_put m_Ru_describe 2 := ⟨(List.mem_of_getElem? (i := 465) (by decide +kernel)), by decide +kernel, by decide, by decide, ⟨by decide, by decide⟩, by decide +kernel⟩
theorem cf_De_quotient_De_demandDivisor : zd_cf m_De_quotient m_De_demandDivisor 1 := ⟨(List.mem_of_getElem? (i := 600) (by decide +kernel)), by decide +kernel, by decide, by decide, ⟨by decide, by decide⟩, by decide +kernel⟩
theorem cf_De_quotient_De_demandMode : zd_cf m_De_quotient m_De_demandMode 1 := ⟨(List.mem_of_getElem? (i := 592) (by decide +kernel)), by decide +kernel, by decide, by decide, ⟨by decide, by decide⟩, by decide +kernel⟩
theorem cf_De_quotient_De_demandPrecision : zd_cf m_De_quotient m_De_demandPrecision 2 := ⟨(List.mem_of_getElem? (i := 673) (by decide +kernel)), by decide +kernel, by decide, by decide, ⟨by decide, by decide⟩, by decide +kernel⟩
theorem cf_De_quotient_De_demandRegisters3 : zd_cf m_De_quotient m_De_demandRegisters3 3 := ⟨(List.mem_of_getElem? (i := 515) (by decide +kernel)), by decide +kernel, by decide, by decide, ⟨by decide, by decide⟩, by decide +kernel⟩
theorem cf_De_quotient_De_divideRough : zd_cf m_De_quotient m_De_divideRough 2 := ⟨(List.mem_of_getElem? (i := 606) (by decide +kernel)), by decide +kernel, by decide, by decide, ⟨by decide, by decide⟩, by decide +kernel⟩
theorem cf_De_quotient_De_keep : zd_cf m_De_quotient m_De_keep 1 := ⟨(List.mem_of_getElem? (i := 469) (by decide +kernel)), by decide +kernel, by decide, by decide, ⟨by decide, by decide⟩, by decide +kernel⟩
theorem cf_De_quotient_Na_digits : zd_cf m_De_quotient m_Na_digits 0 := ⟨(List.mem_of_getElem? (i := 476) (by decide +kernel)), by decide +kernel, by decide, by decide, ⟨by decide, by decide⟩, by decide +kernel⟩
theorem cf_De_quotient_Ru_fitPrecision : zd_cf m_De_quotient m_Ru_fitPrecision 3 := ⟨(List.mem_of_getElem? (i := 678) (by decide +kernel)), by decide +kernel, by decide, by decide, ⟨by decide, by decide⟩, by decide +kernel⟩
theorem cf_De_quotient_Ru_take : zd_cf m_De_quotient m_Ru_take 1 := ⟨(List.mem_of_getElem? (i := 529) (by decide +kernel)), by decide +kernel, by decide, by decide, ⟨by decide, by decide⟩, by decide +kernel⟩
theorem cf_De_read_De_demandRegister : zd_cf m_De_read m_De_demandRegister 1 := ⟨(List.mem_of_getElem? (i := 299) (by decide +kernel)), by decide +kernel, by decide, by decide, ⟨by decide, by decide⟩, by decide +kernel⟩
theorem cf_De_read_De_demandScale : zd_cf m_De_read m_De_demandScale 1 := ⟨(List.mem_of_getElem? (i := 411) (by decide +kernel)), by decide +kernel, by decide, by decide, ⟨by decide, by decide⟩, by decide +kernel⟩
theorem cf_De_read_De_keep : zd_cf m_De_read m_De_keep 1 := ⟨(List.mem_of_getElem? (i := 469) (by decide +kernel)), by decide +kernel, by decide, by decide, ⟨by decide, by decide⟩, by decide +kernel⟩
theorem cf_De_read_Dr_clear : zd_cf m_De_read m_Dr_clear 0 := ⟨(List.mem_of_getElem? (i := 278) (by decide +kernel)), by decide +kernel, by decide, by decide, ⟨by decide, by decide⟩, by decide +kernel⟩
theorem cf_De_read_Dr_fill : zd_cf m_De_read m_Dr_fill 1 := ⟨(List.mem_of_getElem? (i := 436) (by decide +kernel)), by decide +kernel, by decide, by decide, ⟨by decide, by decide⟩, by decide +kernel⟩
theorem cf_De_read_Dr_isNumberText : zd_cf m_De_read m_Dr_isNumberText 0 := ⟨(List.mem_of_getElem? (i := 372) (by decide +kernel)), by decide +kernel, by decide, by decide, ⟨by decide, by decide⟩, by decide +kernel⟩
theorem cf_De_read_Dr_saidScale : zd_cf m_De_read m_Dr_saidScale 0 := ⟨(List.mem_of_getElem? (i := 408) (by decide +kernel)), by decide +kernel, by decide, by decide, ⟨by decide, by decide⟩, by decide +kernel⟩
theorem cf_De_read_Dr_saysNegative : zd_cf m_De_read m_Dr_saysNegative 0 := ⟨(List.mem_of_getElem? (i := 461) (by decide +kernel)), by decide +kernel, by decide, by decide, ⟨by decide, by decide⟩, by decide +kernel⟩
theorem cf_De_read_Ru_describe : zd_cf m_De_read m_Ru_describe 2 := ⟨(List.mem_of_getElem? (i := 465) (by decide +kernel)), by decide +kernel, by decide, by decide, ⟨by decide, by decide⟩, by decide +kernel⟩
theorem cf_De_reduceRaised_Dv_split : zd_cf m_De_reduceRaised m_Dv_split 3 := ⟨(List.mem_of_getElem? (i := 610) (by decide +kernel)), by decide +kernel, by decide, by decide, ⟨by decide, by decide⟩, by decide +kernel⟩
theorem cf_De_reduceRaised_Ma_min : zd_cf m_De_reduceRaised m_Ma_min 2 := ⟨(List.mem_of_getElem? (i := 689) (by decide +kernel)), by decide +kernel, by decide, by decide, ⟨by decide, by decide⟩, by decide +kernel⟩
theorem cf_De_reduceRaised_Na_move : zd_cf m_De_reduceRaised m_Na_move 1 := ⟨(List.mem_of_getElem? (i := 539) (by decide +kernel)), by decide +kernel, by decide, by decide, ⟨by decide, by decide⟩, by decide +kernel⟩
theorem cf_De_remainder_De_demandDivisor : zd_cf m_De_remainder m_De_demandDivisor 1 := ⟨(List.mem_of_getElem? (i := 600) (by decide +kernel)), by decide +kernel, by decide, by decide, ⟨by decide, by decide⟩, by decide +kernel⟩
theorem cf_De_remainder_De_demandRegisters3 : zd_cf m_De_remainder m_De_demandRegisters3 3 := ⟨(List.mem_of_getElem? (i := 515) (by decide +kernel)), by decide +kernel, by decide, by decide, ⟨by decide, by decide⟩, by decide +kernel⟩
theorem cf_De_remainder_De_keep : zd_cf m_De_remainder m_De_keep 1 := ⟨(List.mem_of_getElem? (i := 469) (by decide +kernel)), by decide +kernel, by decide, by decide, ⟨by decide, by decide⟩, by decide +kernel⟩
theorem cf_De_remainder_De_reduceRaised : zd_cf m_De_remainder m_De_reduceRaised 2 := ⟨(List.mem_of_getElem? (i := 700) (by decide +kernel)), by decide +kernel, by decide, by decide, ⟨by decide, by decide⟩, by decide +kernel⟩
theorem cf_De_remainder_Dv_split : zd_cf m_De_remainder m_Dv_split 3 := ⟨(List.mem_of_getElem? (i := 610) (by decide +kernel)), by decide +kernel, by decide, by decide, ⟨by decide, by decide⟩, by decide +kernel⟩
theorem cf_De_remainder_Na_copy : zd_cf m_De_remainder m_Na_copy 1 := ⟨(List.mem_of_getElem? (i := 485) (by decide +kernel)), by decide +kernel, by decide, by decide, ⟨by decide, by decide⟩, by decide +kernel⟩
theorem cf_De_remainder_Na_digits : zd_cf m_De_remainder m_Na_digits 0 := ⟨(List.mem_of_getElem? (i := 476) (by decide +kernel)), by decide +kernel, by decide, by decide, ⟨by decide, by decide⟩, by decide +kernel⟩
theorem cf_De_remainder_Na_move : zd_cf m_De_remainder m_Na_move 1 := ⟨(List.mem_of_getElem? (i := 539) (by decide +kernel)), by decide +kernel, by decide, by decide, ⟨by decide, by decide⟩, by decide +kernel⟩
theorem cf_De_remainder_Ru_take : zd_cf m_De_remainder m_Ru_take 1 := ⟨(List.mem_of_getElem? (i := 529) (by decide +kernel)), by decide +kernel, by decide, by decide, ⟨by decide, by decide⟩, by decide +kernel⟩
theorem cf_De_root_De_demandMode : zd_cf m_De_root m_De_demandMode 1 := ⟨(List.mem_of_getElem? (i := 592) (by decide +kernel)), by decide +kernel, by decide, by decide, ⟨by decide, by decide⟩, by decide +kernel⟩
theorem cf_De_root_De_demandPrecision : zd_cf m_De_root m_De_demandPrecision 2 := ⟨(List.mem_of_getElem? (i := 673) (by decide +kernel)), by decide +kernel, by decide, by decide, ⟨by decide, by decide⟩, by decide +kernel⟩
theorem cf_De_root_De_demandRegisters2 : zd_cf m_De_root m_De_demandRegisters2 2 := ⟨(List.mem_of_getElem? (i := 518) (by decide +kernel)), by decide +kernel, by decide, by decide, ⟨by decide, by decide⟩, by decide +kernel⟩
theorem cf_De_root_De_keep : zd_cf m_De_root m_De_keep 1 := ⟨(List.mem_of_getElem? (i := 469) (by decide +kernel)), by decide +kernel, by decide, by decide, ⟨by decide, by decide⟩, by decide +kernel⟩
theorem cf_De_root_Ma_floorDiv : zd_cf m_De_root m_Ma_floorDiv 2 := ⟨(List.mem_of_getElem? (i := 724) (by decide +kernel)), by decide +kernel, by decide, by decide, ⟨by decide, by decide⟩, by decide +kernel⟩
theorem cf_De_root_Na_copy : zd_cf m_De_root m_Na_copy 1 := ⟨(List.mem_of_getElem? (i := 485) (by decide +kernel)), by decide +kernel, by decide, by decide, ⟨by decide, by decide⟩, by decide +kernel⟩
theorem cf_De_root_Na_digits : zd_cf m_De_root m_Na_digits 0 := ⟨(List.mem_of_getElem? (i := 476) (by decide +kernel)), by decide +kernel, by decide, by decide, ⟨by decide, by decide⟩, by decide +kernel⟩
theorem cf_De_root_Na_isZero : zd_cf m_De_root m_Na_isZero 0 := ⟨(List.mem_of_getElem? (i := 492) (by decide +kernel)), by decide +kernel, by decide, by decide, ⟨by decide, by decide⟩, by decide +kernel⟩
theorem cf_De_root_Ro_extract : zd_cf m_De_root m_Ro_extract 2 := ⟨(List.mem_of_getElem? (i := 728) (by decide +kernel)), by decide +kernel, by decide, by decide, ⟨by decide, by decide⟩, by decide +kernel⟩
theorem cf_De_root_Ru_cutTo : zd_cf m_De_root m_Ru_cutTo 1 := ⟨(List.mem_of_getElem? (i := 535) (by decide +kernel)), by decide +kernel, by decide, by decide, ⟨by decide, by decide⟩, by decide +kernel⟩
theorem cf_De_root_Ru_fitPrecision : zd_cf m_De_root m_Ru_fitPrecision 3 := ⟨(List.mem_of_getElem? (i := 678) (by decide +kernel)), by decide +kernel, by decide, by decide, ⟨by decide, by decide⟩, by decide +kernel⟩
theorem cf_De_root_Ru_take : zd_cf m_De_root m_Ru_take 1 := ⟨(List.mem_of_getElem? (i := 529) (by decide +kernel)), by decide +kernel, by decide, by decide, ⟨by decide, by decide⟩, by decide +kernel⟩
theorem cf_De_round_De_demandMode : zd_cf m_De_round m_De_demandMode 1 := ⟨(List.mem_of_getElem? (i := 592) (by decide +kernel)), by decide +kernel, by decide, by decide, ⟨by decide, by decide⟩, by decide +kernel⟩
theorem cf_De_round_De_demandPrecision : zd_cf m_De_round m_De_demandPrecision 2 := ⟨(List.mem_of_getElem? (i := 673) (by decide +kernel)), by decide +kernel, by decide, by decide, ⟨by decide, by decide⟩, by decide +kernel⟩
theorem cf_De_round_De_demandRegisters2 : zd_cf m_De_round m_De_demandRegisters2 2 := ⟨(List.mem_of_getElem? (i := 518) (by decide +kernel)), by decide +kernel, by decide, by decide, ⟨by decide, by decide⟩, by decide +kernel⟩
theorem cf_De_round_De_keep : zd_cf m_De_round m_De_keep 1 := ⟨(List.mem_of_getElem? (i := 469) (by decide +kernel)), by decide +kernel, by decide, by decide, ⟨by decide, by decide⟩, by decide +kernel⟩
theorem cf_De_round_Ru_fitPrecision : zd_cf m_De_round m_Ru_fitPrecision 3 := ⟨(List.mem_of_getElem? (i := 678) (by decide +kernel)), by decide +kernel, by decide, by decide, ⟨by decide, by decide⟩, by decide +kernel⟩
theorem cf_De_round_Ru_take : zd_cf m_De_round m_Ru_take 1 := ⟨(List.mem_of_getElem? (i := 529) (by decide +kernel)), by decide +kernel, by decide, by decide, ⟨by decide, by decide⟩, by decide +kernel⟩
theorem cf_De_shift_De_demandRegisters2 : zd_cf m_De_shift m_De_demandRegisters2 2 := ⟨(List.mem_of_getElem? (i := 518) (by decide +kernel)), by decide +kernel, by decide, by decide, ⟨by decide, by decide⟩, by decide +kernel⟩
theorem cf_De_shift_De_demandScale : zd_cf m_De_shift m_De_demandScale 1 := ⟨(List.mem_of_getElem? (i := 411) (by decide +kernel)), by decide +kernel, by decide, by decide, ⟨by decide, by decide⟩, by decide +kernel⟩
theorem cf_De_shift_De_keep : zd_cf m_De_shift m_De_keep 1 := ⟨(List.mem_of_getElem? (i := 469) (by decide +kernel)), by decide +kernel, by decide, by decide, ⟨by decide, by decide⟩, by decide +kernel⟩
theorem cf_De_shift_Ru_take : zd_cf m_De_shift m_Ru_take 1 := ⟨(List.mem_of_getElem? (i := 529) (by decide +kernel)), by decide +kernel, by decide, by decide, ⟨by decide, by decide⟩, by decide +kernel⟩
theorem cf_De_strip_De_demandRegisters2 : zd_cf m_De_strip m_De_demandRegisters2 2 := ⟨(List.mem_of_getElem? (i := 518) (by decide +kernel)), by decide +kernel, by decide, by decide, ⟨by decide, by decide⟩, by decide +kernel⟩
theorem cf_De_strip_De_keep : zd_cf m_De_strip m_De_keep 1 := ⟨(List.mem_of_getElem? (i := 469) (by decide +kernel)), by decide +kernel, by decide, by decide, ⟨by decide, by decide⟩, by decide +kernel⟩
theorem cf_De_strip_Na_isZero : zd_cf m_De_strip m_Na_isZero 0 := ⟨(List.mem_of_getElem? (i := 492) (by decide +kernel)), by decide +kernel, by decide, by decide, ⟨by decide, by decide⟩, by decide +kernel⟩
theorem cf_De_strip_Na_trailingZeros : zd_cf m_De_strip m_Na_trailingZeros 0 := ⟨(List.mem_of_getElem? (i := 686) (by decide +kernel)), by decide +kernel, by decide, by decide, ⟨by decide, by decide⟩, by decide +kernel⟩
theorem cf_De_strip_Ru_cutTo : zd_cf m_De_strip m_Ru_cutTo 1 := ⟨(List.mem_of_getElem? (i := 535) (by decide +kernel)), by decide +kernel, by decide, by decide, ⟨by decide, by decide⟩, by decide +kernel⟩
theorem cf_De_strip_Ru_take : zd_cf m_De_strip m_Ru_take 1 := ⟨(List.mem_of_getElem? (i := 529) (by decide +kernel)), by decide +kernel, by decide, by decide, ⟨by decide, by decide⟩, by decide +kernel⟩
theorem cf_De_toScale_De_demandMode : zd_cf m_De_toScale m_De_demandMode 1 := ⟨(List.mem_of_getElem? (i := 592) (by decide +kernel)), by decide +kernel, by decide, by decide, ⟨by decide, by decide⟩, by decide +kernel⟩
theorem cf_De_toScale_De_demandRegisters2 : zd_cf m_De_toScale m_De_demandRegisters2 2 := ⟨(List.mem_of_getElem? (i := 518) (by decide +kernel)), by decide +kernel, by decide, by decide, ⟨by decide, by decide⟩, by decide +kernel⟩
theorem cf_De_toScale_De_demandWantedScale : zd_cf m_De_toScale m_De_demandWantedScale 1 := ⟨(List.mem_of_getElem? (i := 596) (by decide +kernel)), by decide +kernel, by decide, by decide, ⟨by decide, by decide⟩, by decide +kernel⟩
theorem cf_De_toScale_De_keep : zd_cf m_De_toScale m_De_keep 1 := ⟨(List.mem_of_getElem? (i := 469) (by decide +kernel)), by decide +kernel, by decide, by decide, ⟨by decide, by decide⟩, by decide +kernel⟩
theorem cf_De_toScale_Ru_cutTo : zd_cf m_De_toScale m_Ru_cutTo 1 := ⟨(List.mem_of_getElem? (i := 535) (by decide +kernel)), by decide +kernel, by decide, by decide, ⟨by decide, by decide⟩, by decide +kernel⟩
theorem cf_De_toScale_Ru_dropGuard : zd_cf m_De_toScale m_Ru_dropGuard 1 := ⟨(List.mem_of_getElem? (i := 646) (by decide +kernel)), by decide +kernel, by decide, by decide, ⟨by decide, by decide⟩, by decide +kernel⟩
theorem cf_De_toScale_Ru_take : zd_cf m_De_toScale m_Ru_take 1 := ⟨(List.mem_of_getElem? (i := 529) (by decide +kernel)), by decide +kernel, by decide, by decide, ⟨by decide, by decide⟩, by decide +kernel⟩
theorem cf_De_told_Dc_sign : zd_cf m_De_told m_Dc_sign 0 := ⟨(List.mem_of_getElem? (i := 790) (by decide +kernel)), by decide +kernel, by decide, by decide, ⟨by decide, by decide⟩, by decide +kernel⟩
theorem cf_De_told_De_demandRegister : zd_cf m_De_told m_De_demandRegister 1 := ⟨(List.mem_of_getElem? (i := 299) (by decide +kernel)), by decide +kernel, by decide, by decide, ⟨by decide, by decide⟩, by decide +kernel⟩
theorem cf_De_told_Na_digitAt : zd_cf m_De_told m_Na_digitAt 1 := ⟨(List.mem_of_getElem? (i := 650) (by decide +kernel)), by decide +kernel, by decide, by decide, ⟨by decide, by decide⟩, by decide +kernel⟩
theorem cf_De_told_Na_digits : zd_cf m_De_told m_Na_digits 0 := ⟨(List.mem_of_getElem? (i := 476) (by decide +kernel)), by decide +kernel, by decide, by decide, ⟨by decide, by decide⟩, by decide +kernel⟩
theorem cf_De_wipe_Dr_clear : zd_cf m_De_wipe m_Dr_clear 0 := ⟨(List.mem_of_getElem? (i := 278) (by decide +kernel)), by decide +kernel, by decide, by decide, ⟨by decide, by decide⟩, by decide +kernel⟩
theorem cf_De_write_Dr_append : zd_cf m_De_write m_Dr_append 1 := ⟨(List.mem_of_getElem? (i := 266) (by decide +kernel)), by decide +kernel, by decide, by decide, ⟨by decide, by decide⟩, by decide +kernel⟩
theorem cf_De_written_De_demandRegister : zd_cf m_De_written m_De_demandRegister 1 := ⟨(List.mem_of_getElem? (i := 299) (by decide +kernel)), by decide +kernel, by decide, by decide, ⟨by decide, by decide⟩, by decide +kernel⟩
theorem cf_De_written_Te_spell : zd_cf m_De_written m_Te_spell 2 := ⟨(List.mem_of_getElem? (i := 832) (by decide +kernel)), by decide +kernel, by decide, by decide, ⟨by decide, by decide⟩, by decide +kernel⟩
def dl_De_write : List (Nat × Instr × Nat) := [(0, .aload_n 0, 1), (1, .getfield 19, 3), (4, .lload_n 1, 1), (5, .invokevirtual 65, 3), (8, .ireturn, 1)]
theorem dc_De_write : ∀ q ∈ dl_De_write, decode (zd_yb m_De_write) q.1 = .ok q.2 := by decide +kernel
def cd_De_write (l : Launch) (B : zd_B) : List (Nat × zd_S) := [(0, oc_aload 0 1), (1, oc_getf B 0 1 4), (4, oc_lload 1 5), (5, oc_callv l B 3 m_Dr_append 1 8), (8, oc_iret .int)]
set_option maxRecDepth 20000 in
theorem ok_De_write {l : Launch} {B : zd_B} (hG : zd_G B) (hl : l.stackTraces = false) : ∀ q ∈ cd_De_write l B, zd_ok l B m_De_write q.1 q.2 := by
  unfold cd_De_write
  refine zd_ac (ok_aload_n (l := l) (B := B) (y := m_De_write) (pc := 0) (k := 0) rfl (zd_dr dc_De_write 0 rfl)) ?_
  refine zd_ac (ok_getf (l := l) (B := B) (y := m_De_write) (pc := 1) hG (C := zR0) (T := zT0) (N := 8) (ci := 0) (k := 1) rfl zl0 (by decide) (List.mem_of_getElem? (i := 235) (by decide +kernel)) (zd_dr dc_De_write 1 rfl)) ?_
  refine zd_ac (ok_lload_n (l := l) (B := B) (y := m_De_write) (pc := 4) (k := 1) rfl (zd_dr dc_De_write 2 rfl)) ?_
  refine zd_ac (ok_callv (l := l) (B := B) (y := m_De_write) (pc := 5) hG (ci := 3) rfl cf_De_write_Dr_append rfl (List.mem_of_getElem? (i := 263) (by decide +kernel)) (List.mem_of_getElem? (i := 264) (by decide +kernel)) (List.mem_of_getElem? (i := 265) (by decide +kernel)) (zd_dr dc_De_write 3 rfl)) ?_
  refine zd_ac (ok_iret (l := l) (B := B) (y := m_De_write) (pc := 8) rfl (zd_dr dc_De_write 4 rfl)) ?_
  exact zd_an
def dl_De_wipe : List (Nat × Instr × Nat) := [(0, .aload_n 0, 1), (1, .getfield 19, 3), (4, .invokevirtual 69, 3), (7, .ireturn, 1)]
theorem dc_De_wipe : ∀ q ∈ dl_De_wipe, decode (zd_yb m_De_wipe) q.1 = .ok q.2 := by decide +kernel
def cd_De_wipe (l : Launch) (B : zd_B) : List (Nat × zd_S) := [(0, oc_aload 0 1), (1, oc_getf B 0 1 4), (4, oc_callv l B 3 m_Dr_clear 0 7), (7, oc_iret .int)]
set_option maxRecDepth 20000 in
theorem ok_De_wipe {l : Launch} {B : zd_B} (hG : zd_G B) (hl : l.stackTraces = false) : ∀ q ∈ cd_De_wipe l B, zd_ok l B m_De_wipe q.1 q.2 := by
  unfold cd_De_wipe
  refine zd_ac (ok_aload_n (l := l) (B := B) (y := m_De_wipe) (pc := 0) (k := 0) rfl (zd_dr dc_De_wipe 0 rfl)) ?_
  refine zd_ac (ok_getf (l := l) (B := B) (y := m_De_wipe) (pc := 1) hG (C := zR0) (T := zT0) (N := 8) (ci := 0) (k := 1) rfl zl0 (by decide) (List.mem_of_getElem? (i := 235) (by decide +kernel)) (zd_dr dc_De_wipe 1 rfl)) ?_
  refine zd_ac (ok_callv (l := l) (B := B) (y := m_De_wipe) (pc := 4) hG (ci := 3) rfl cf_De_wipe_Dr_clear rfl (List.mem_of_getElem? (i := 275) (by decide +kernel)) (List.mem_of_getElem? (i := 276) (by decide +kernel)) (List.mem_of_getElem? (i := 277) (by decide +kernel)) (zd_dr dc_De_wipe 2 rfl)) ?_
  refine zd_ac (ok_iret (l := l) (B := B) (y := m_De_wipe) (pc := 7) rfl (zd_dr dc_De_wipe 3 rfl)) ?_
  exact zd_an
def dl_De_read : List (Nat × Instr × Nat) := [(0, .iload_n 1, 1), (1, .invokestatic 73, 3), (4, .aload_n 0, 1), (5, .getfield 19, 3), (8, .invokevirtual 76, 3), (11, .ifCond .ne (13), 3), (14, .new 80, 3), (17, .dup, 1), (18, .ldc 82, 2), (20, .invokespecial 84, 3), (23, .athrow, 1), (24, .aload_n 0, 1), (25, .getfield 19, 3), (28, .invokevirtual 87, 3), (31, .invokestatic 91, 3), (34, .aload_n 0, 1), (35, .getfield 19, 3), (38, .aload_n 0, 1), (39, .getfield 49, 3), (42, .getfield 95, 3), (45, .invokevirtual 98, 3), (48, .aload_n 0, 1), (49, .getfield 49, 3), (52, .aload_n 0, 1), (53, .getfield 19, 3), (56, .invokevirtual 102, 3), (59, .aload_n 0, 1), (60, .getfield 19, 3), (63, .invokevirtual 87, 3), (66, .l2i, 1), (67, .invokevirtual 105, 3), (70, .aload_n 0, 1), (71, .iload_n 1, 1), (72, .invokevirtual 109, 3), (75, .aload_n 0, 1), (76, .getfield 19, 3), (79, .invokevirtual 69, 3), (82, .pop, 1), (83, .return_, 1)]
theorem dc_De_read : ∀ q ∈ dl_De_read, decode (zd_yb m_De_read) q.1 = .ok q.2 := by decide +kernel
def cd_De_read (l : Launch) (B : zd_B) : List (Nat × zd_S) := [(0, oc_iload 1 1), (1, oc_calls l B m_De_demandRegister 1 4), (4, oc_aload 0 5), (5, oc_getf B 0 1 8), (8, oc_callv l B 3 m_Dr_isNumberText 0 11), (11, oc_if_ne 24 14), (14, oc_throw B 10), (24, oc_aload 0 25), (25, oc_getf B 0 1 28), (28, oc_callv l B 3 m_Dr_saidScale 0 31), (31, oc_calls l B m_De_demandScale 1 34), (34, oc_aload 0 35), (35, oc_getf B 0 1 38), (38, oc_aload 0 39), (39, oc_getf B 0 5 42), (42, oc_getf B 6 0 45), (45, oc_callv l B 3 m_Dr_fill 1 48), (48, oc_aload 0 49), (49, oc_getf B 0 5 52), (52, oc_aload 0 53), (53, oc_getf B 0 1 56), (56, oc_callv l B 3 m_Dr_saysNegative 0 59), (59, oc_aload 0 60), (60, oc_getf B 0 1 63), (63, oc_callv l B 3 m_Dr_saidScale 0 66), (66, oc_l2i 67), (67, oc_callv l B 6 m_Ru_describe 2 70), (70, oc_aload 0 71), (71, oc_iload 1 72), (72, oc_callv l B 0 m_De_keep 1 75), (75, oc_aload 0 76), (76, oc_getf B 0 1 79), (79, oc_callv l B 3 m_Dr_clear 0 82), (82, oc_pop 83), (83, oc_vret)]
set_option maxRecDepth 20000 in
theorem ok_De_read {l : Launch} {B : zd_B} (hG : zd_G B) (hl : l.stackTraces = false) : ∀ q ∈ cd_De_read l B, zd_ok l B m_De_read q.1 q.2 := by
  unfold cd_De_read
  refine zd_ac (ok_iload_n (l := l) (B := B) (y := m_De_read) (pc := 0) (k := 1) rfl (zd_dr dc_De_read 0 rfl)) ?_
  refine zd_ac (ok_calls (l := l) (B := B) (y := m_De_read) (pc := 1) hG cf_De_read_De_demandRegister rfl (List.mem_of_getElem? (i := 297) (by decide +kernel)) (List.mem_of_getElem? (i := 298) (by decide +kernel)) (List.mem_of_getElem? (i := 56) (by decide +kernel)) (zd_dr dc_De_read 1 rfl)) ?_
  refine zd_ac (ok_aload_n (l := l) (B := B) (y := m_De_read) (pc := 4) (k := 0) rfl (zd_dr dc_De_read 2 rfl)) ?_
  refine zd_ac (ok_getf (l := l) (B := B) (y := m_De_read) (pc := 5) hG (C := zR0) (T := zT0) (N := 8) (ci := 0) (k := 1) rfl zl0 (by decide) (List.mem_of_getElem? (i := 235) (by decide +kernel)) (zd_dr dc_De_read 3 rfl)) ?_
  refine zd_ac (ok_callv (l := l) (B := B) (y := m_De_read) (pc := 8) hG (ci := 3) rfl cf_De_read_Dr_isNumberText rfl (List.mem_of_getElem? (i := 369) (by decide +kernel)) (List.mem_of_getElem? (i := 370) (by decide +kernel)) (List.mem_of_getElem? (i := 371) (by decide +kernel)) (zd_dr dc_De_read 4 rfl)) ?_
  refine zd_ac (ok_if_ne (l := l) (B := B) (y := m_De_read) (pc := 11) (zd_dr dc_De_read 5 rfl) (by decide)) ?_
  refine zd_ac (ok_throw (l := l) (B := B) (y := m_De_read) (pc := 14) hG hl zE10 zx_De_80_82_84 rfl (by decide) (by decide) (zd_dr dc_De_read 6 rfl) (zd_dr dc_De_read 7 rfl) (zd_dr dc_De_read 8 rfl) (zd_dr dc_De_read 9 rfl) (zd_dr dc_De_read 10 rfl)) ?_
  refine zd_ac (ok_aload_n (l := l) (B := B) (y := m_De_read) (pc := 24) (k := 0) rfl (zd_dr dc_De_read 11 rfl)) ?_
  refine zd_ac (ok_getf (l := l) (B := B) (y := m_De_read) (pc := 25) hG (C := zR0) (T := zT0) (N := 8) (ci := 0) (k := 1) rfl zl0 (by decide) (List.mem_of_getElem? (i := 235) (by decide +kernel)) (zd_dr dc_De_read 12 rfl)) ?_
  refine zd_ac (ok_callv (l := l) (B := B) (y := m_De_read) (pc := 28) hG (ci := 3) rfl cf_De_read_Dr_saidScale rfl (List.mem_of_getElem? (i := 405) (by decide +kernel)) (List.mem_of_getElem? (i := 406) (by decide +kernel)) (List.mem_of_getElem? (i := 407) (by decide +kernel)) (zd_dr dc_De_read 13 rfl)) ?_
  refine zd_ac (ok_calls (l := l) (B := B) (y := m_De_read) (pc := 31) hG cf_De_read_De_demandScale rfl (List.mem_of_getElem? (i := 409) (by decide +kernel)) (List.mem_of_getElem? (i := 410) (by decide +kernel)) (List.mem_of_getElem? (i := 56) (by decide +kernel)) (zd_dr dc_De_read 14 rfl)) ?_
  refine zd_ac (ok_aload_n (l := l) (B := B) (y := m_De_read) (pc := 34) (k := 0) rfl (zd_dr dc_De_read 15 rfl)) ?_
  refine zd_ac (ok_getf (l := l) (B := B) (y := m_De_read) (pc := 35) hG (C := zR0) (T := zT0) (N := 8) (ci := 0) (k := 1) rfl zl0 (by decide) (List.mem_of_getElem? (i := 235) (by decide +kernel)) (zd_dr dc_De_read 16 rfl)) ?_
  refine zd_ac (ok_aload_n (l := l) (B := B) (y := m_De_read) (pc := 38) (k := 0) rfl (zd_dr dc_De_read 17 rfl)) ?_
  refine zd_ac (ok_getf (l := l) (B := B) (y := m_De_read) (pc := 39) hG (C := zR0) (T := zT0) (N := 8) (ci := 0) (k := 5) rfl zl0 (by decide) (List.mem_of_getElem? (i := 239) (by decide +kernel)) (zd_dr dc_De_read 18 rfl)) ?_
  refine zd_ac (ok_getf (l := l) (B := B) (y := m_De_read) (pc := 42) hG (C := zR6) (T := zT6) (N := 4) (ci := 6) (k := 0) rfl zl6 (by decide) (List.mem_of_getElem? (i := 214) (by decide +kernel)) (zd_dr dc_De_read 19 rfl)) ?_
  refine zd_ac (ok_callv (l := l) (B := B) (y := m_De_read) (pc := 45) hG (ci := 3) rfl cf_De_read_Dr_fill rfl (List.mem_of_getElem? (i := 433) (by decide +kernel)) (List.mem_of_getElem? (i := 434) (by decide +kernel)) (List.mem_of_getElem? (i := 435) (by decide +kernel)) (zd_dr dc_De_read 20 rfl)) ?_
  refine zd_ac (ok_aload_n (l := l) (B := B) (y := m_De_read) (pc := 48) (k := 0) rfl (zd_dr dc_De_read 21 rfl)) ?_
  refine zd_ac (ok_getf (l := l) (B := B) (y := m_De_read) (pc := 49) hG (C := zR0) (T := zT0) (N := 8) (ci := 0) (k := 5) rfl zl0 (by decide) (List.mem_of_getElem? (i := 239) (by decide +kernel)) (zd_dr dc_De_read 22 rfl)) ?_
  refine zd_ac (ok_aload_n (l := l) (B := B) (y := m_De_read) (pc := 52) (k := 0) rfl (zd_dr dc_De_read 23 rfl)) ?_
  refine zd_ac (ok_getf (l := l) (B := B) (y := m_De_read) (pc := 53) hG (C := zR0) (T := zT0) (N := 8) (ci := 0) (k := 1) rfl zl0 (by decide) (List.mem_of_getElem? (i := 235) (by decide +kernel)) (zd_dr dc_De_read 24 rfl)) ?_
  refine zd_ac (ok_callv (l := l) (B := B) (y := m_De_read) (pc := 56) hG (ci := 3) rfl cf_De_read_Dr_saysNegative rfl (List.mem_of_getElem? (i := 458) (by decide +kernel)) (List.mem_of_getElem? (i := 459) (by decide +kernel)) (List.mem_of_getElem? (i := 460) (by decide +kernel)) (zd_dr dc_De_read 25 rfl)) ?_
  refine zd_ac (ok_aload_n (l := l) (B := B) (y := m_De_read) (pc := 59) (k := 0) rfl (zd_dr dc_De_read 26 rfl)) ?_
  refine zd_ac (ok_getf (l := l) (B := B) (y := m_De_read) (pc := 60) hG (C := zR0) (T := zT0) (N := 8) (ci := 0) (k := 1) rfl zl0 (by decide) (List.mem_of_getElem? (i := 235) (by decide +kernel)) (zd_dr dc_De_read 27 rfl)) ?_
  refine zd_ac (ok_callv (l := l) (B := B) (y := m_De_read) (pc := 63) hG (ci := 3) rfl cf_De_read_Dr_saidScale rfl (List.mem_of_getElem? (i := 405) (by decide +kernel)) (List.mem_of_getElem? (i := 406) (by decide +kernel)) (List.mem_of_getElem? (i := 407) (by decide +kernel)) (zd_dr dc_De_read 28 rfl)) ?_
  refine zd_ac (ok_l2i (l := l) (B := B) (y := m_De_read) (pc := 66) (zd_dr dc_De_read 29 rfl)) ?_
  refine zd_ac (ok_callv (l := l) (B := B) (y := m_De_read) (pc := 67) hG (ci := 6) rfl cf_De_read_Ru_describe rfl (List.mem_of_getElem? (i := 462) (by decide +kernel)) (List.mem_of_getElem? (i := 463) (by decide +kernel)) (List.mem_of_getElem? (i := 464) (by decide +kernel)) (zd_dr dc_De_read 30 rfl)) ?_
  refine zd_ac (ok_aload_n (l := l) (B := B) (y := m_De_read) (pc := 70) (k := 0) rfl (zd_dr dc_De_read 31 rfl)) ?_
  refine zd_ac (ok_iload_n (l := l) (B := B) (y := m_De_read) (pc := 71) (k := 1) rfl (zd_dr dc_De_read 32 rfl)) ?_
  refine zd_ac (ok_callv (l := l) (B := B) (y := m_De_read) (pc := 72) hG (ci := 0) rfl cf_De_read_De_keep rfl (List.mem_of_getElem? (i := 466) (by decide +kernel)) (List.mem_of_getElem? (i := 468) (by decide +kernel)) (List.mem_of_getElem? (i := 4) (by decide +kernel)) (zd_dr dc_De_read 33 rfl)) ?_
  refine zd_ac (ok_aload_n (l := l) (B := B) (y := m_De_read) (pc := 75) (k := 0) rfl (zd_dr dc_De_read 34 rfl)) ?_
  refine zd_ac (ok_getf (l := l) (B := B) (y := m_De_read) (pc := 76) hG (C := zR0) (T := zT0) (N := 8) (ci := 0) (k := 1) rfl zl0 (by decide) (List.mem_of_getElem? (i := 235) (by decide +kernel)) (zd_dr dc_De_read 35 rfl)) ?_
  refine zd_ac (ok_callv (l := l) (B := B) (y := m_De_read) (pc := 79) hG (ci := 3) rfl cf_De_read_Dr_clear rfl (List.mem_of_getElem? (i := 275) (by decide +kernel)) (List.mem_of_getElem? (i := 276) (by decide +kernel)) (List.mem_of_getElem? (i := 277) (by decide +kernel)) (zd_dr dc_De_read 36 rfl)) ?_
  refine zd_ac (ok_pop (l := l) (B := B) (y := m_De_read) (pc := 82) (zd_dr dc_De_read 37 rfl)) ?_
  refine zd_ac (ok_vret (l := l) (B := B) (y := m_De_read) (pc := 83) rfl (zd_dr dc_De_read 38 rfl)) ?_
  exact zd_an
def dl_De_put : List (Nat × Instr × Nat) := [(0, .iload_n 1, 1), (1, .invokestatic 73, 3), (4, .aload_n 0, 1), (5, .getfield 49, 3), (8, .getfield 95, 3), (11, .lload_n 2, 1), (12, .invokevirtual 112, 3), (15, .aload_n 0, 1), (16, .getfield 49, 3), (19, .lload_n 2, 1), (20, .lconst 0, 1), (21, .lcmp, 1), (22, .ifCond .ge (7), 3), (25, .iconst (1), 1), (26, .goto (4), 3), (29, .iconst (0), 1), (30, .iload 4, 2), (32, .invokevirtual 105, 3), (35, .aload_n 0, 1), (36, .iload_n 1, 1), (37, .invokevirtual 109, 3), (40, .return_, 1)]
theorem dc_De_put : ∀ q ∈ dl_De_put, decode (zd_yb m_De_put) q.1 = .ok q.2 := by decide +kernel
def cd_De_put (l : Launch) (B : zd_B) : List (Nat × zd_S) := [(0, oc_iload 1 1), (1, oc_calls l B m_De_demandRegister 1 4), (4, oc_aload 0 5), (5, oc_getf B 0 5 8), (8, oc_getf B 6 0 11), (11, oc_lload 2 12), (12, oc_callv l B 4 m_Na_become 1 15), (15, oc_aload 0 16), (16, oc_getf B 0 5 19), (19, oc_lload 2 20), (20, oc_cl 0 21), (21, oc_lcmp 22), (22, oc_if_ge 29 25), (25, oc_ci (1) 26), (26, oc_goto 30), (29, oc_ci (0) 30), (30, oc_iload 4 32), (32, oc_callv l B 6 m_Ru_describe 2 35), (35, oc_aload 0 36), (36, oc_iload 1 37), (37, oc_callv l B 0 m_De_keep 1 40), (40, oc_vret)]
set_option maxRecDepth 20000 in
theorem ok_De_put {l : Launch} {B : zd_B} (hG : zd_G B) (hl : l.stackTraces = false) : ∀ q ∈ cd_De_put l B, zd_ok l B m_De_put q.1 q.2 := by
  unfold cd_De_put
  refine zd_ac (ok_iload_n (l := l) (B := B) (y := m_De_put) (pc := 0) (k := 1) rfl (zd_dr dc_De_put 0 rfl)) ?_
  refine zd_ac (ok_calls (l := l) (B := B) (y := m_De_put) (pc := 1) hG cf_De_put_De_demandRegister rfl (List.mem_of_getElem? (i := 297) (by decide +kernel)) (List.mem_of_getElem? (i := 298) (by decide +kernel)) (List.mem_of_getElem? (i := 56) (by decide +kernel)) (zd_dr dc_De_put 1 rfl)) ?_
  refine zd_ac (ok_aload_n (l := l) (B := B) (y := m_De_put) (pc := 4) (k := 0) rfl (zd_dr dc_De_put 2 rfl)) ?_
  refine zd_ac (ok_getf (l := l) (B := B) (y := m_De_put) (pc := 5) hG (C := zR0) (T := zT0) (N := 8) (ci := 0) (k := 5) rfl zl0 (by decide) (List.mem_of_getElem? (i := 239) (by decide +kernel)) (zd_dr dc_De_put 3 rfl)) ?_
  refine zd_ac (ok_getf (l := l) (B := B) (y := m_De_put) (pc := 8) hG (C := zR6) (T := zT6) (N := 4) (ci := 6) (k := 0) rfl zl6 (by decide) (List.mem_of_getElem? (i := 214) (by decide +kernel)) (zd_dr dc_De_put 4 rfl)) ?_
  refine zd_ac (ok_lload_n (l := l) (B := B) (y := m_De_put) (pc := 11) (k := 2) rfl (zd_dr dc_De_put 5 rfl)) ?_
  refine zd_ac (ok_callv (l := l) (B := B) (y := m_De_put) (pc := 12) hG (ci := 4) rfl cf_De_put_Na_become rfl (List.mem_of_getElem? (i := 500) (by decide +kernel)) (List.mem_of_getElem? (i := 501) (by decide +kernel)) (List.mem_of_getElem? (i := 502) (by decide +kernel)) (zd_dr dc_De_put 6 rfl)) ?_
  refine zd_ac (ok_aload_n (l := l) (B := B) (y := m_De_put) (pc := 15) (k := 0) rfl (zd_dr dc_De_put 7 rfl)) ?_
  refine zd_ac (ok_getf (l := l) (B := B) (y := m_De_put) (pc := 16) hG (C := zR0) (T := zT0) (N := 8) (ci := 0) (k := 5) rfl zl0 (by decide) (List.mem_of_getElem? (i := 239) (by decide +kernel)) (zd_dr dc_De_put 8 rfl)) ?_
  refine zd_ac (ok_lload_n (l := l) (B := B) (y := m_De_put) (pc := 19) (k := 2) rfl (zd_dr dc_De_put 9 rfl)) ?_
  refine zd_ac (ok_lconst (l := l) (B := B) (y := m_De_put) (pc := 20) (n := 0) (zd_dr dc_De_put 10 rfl) rfl) ?_
  refine zd_ac (ok_lcmp (l := l) (B := B) (y := m_De_put) (pc := 21) (zd_dr dc_De_put 11 rfl)) ?_
  refine zd_ac (ok_if_ge (l := l) (B := B) (y := m_De_put) (pc := 22) (zd_dr dc_De_put 12 rfl) (by decide)) ?_
  refine zd_ac (ok_iconst (l := l) (B := B) (y := m_De_put) (pc := 25) (n := (1)) (zd_dr dc_De_put 13 rfl) rfl) ?_
  refine zd_ac (ok_goto (l := l) (B := B) (y := m_De_put) (pc := 26) (zd_dr dc_De_put 14 rfl) (by decide)) ?_
  refine zd_ac (ok_iconst (l := l) (B := B) (y := m_De_put) (pc := 29) (n := (0)) (zd_dr dc_De_put 15 rfl) rfl) ?_
  refine zd_ac (ok_iload (l := l) (B := B) (y := m_De_put) (pc := 30) (zd_dr dc_De_put 16 rfl)) ?_
  refine zd_ac (ok_callv (l := l) (B := B) (y := m_De_put) (pc := 32) hG (ci := 6) rfl cf_De_put_Ru_describe rfl (List.mem_of_getElem? (i := 462) (by decide +kernel)) (List.mem_of_getElem? (i := 463) (by decide +kernel)) (List.mem_of_getElem? (i := 464) (by decide +kernel)) (zd_dr dc_De_put 17 rfl)) ?_
  refine zd_ac (ok_aload_n (l := l) (B := B) (y := m_De_put) (pc := 35) (k := 0) rfl (zd_dr dc_De_put 18 rfl)) ?_
  refine zd_ac (ok_iload_n (l := l) (B := B) (y := m_De_put) (pc := 36) (k := 1) rfl (zd_dr dc_De_put 19 rfl)) ?_
  refine zd_ac (ok_callv (l := l) (B := B) (y := m_De_put) (pc := 37) hG (ci := 0) rfl cf_De_put_De_keep rfl (List.mem_of_getElem? (i := 466) (by decide +kernel)) (List.mem_of_getElem? (i := 468) (by decide +kernel)) (List.mem_of_getElem? (i := 4) (by decide +kernel)) (zd_dr dc_De_put 20 rfl)) ?_
  refine zd_ac (ok_vret (l := l) (B := B) (y := m_De_put) (pc := 40) rfl (zd_dr dc_De_put 21 rfl)) ?_
  exact zd_an
def dl_De_add : List (Nat × Instr × Nat) := [(0, .iload_n 1, 1), (1, .iload_n 2, 1), (2, .iload_n 3, 1), (3, .invokestatic 115, 3), (6, .aload_n 0, 1), (7, .getfield 11, 3), (10, .iload_n 1, 1), (11, .aaload, 1), (12, .astore 5, 2), (14, .aload_n 0, 1), (15, .getfield 11, 3), (18, .iload_n 2, 1), (19, .aaload, 1), (20, .astore 6, 2), (22, .aload_n 0, 1), (23, .aload 5, 2), (25, .aload 6, 2), (27, .invokevirtual 119, 3), (30, .aload_n 0, 1), (31, .aload 6, 2), (33, .getfield 123, 3), (36, .iload 4, 2), (38, .if_icmp .eq (7), 3), (41, .iconst (1), 1), (42, .goto (4), 3), (45, .iconst (0), 1), (46, .invokevirtual 127, 3), (49, .aload_n 0, 1), (50, .iload_n 3, 1), (51, .invokevirtual 109, 3), (54, .return_, 1)]
theorem dc_De_add : ∀ q ∈ dl_De_add, decode (zd_yb m_De_add) q.1 = .ok q.2 := by decide +kernel
def cd_De_add (l : Launch) (B : zd_B) : List (Nat × zd_S) := [(0, oc_iload 1 1), (1, oc_iload 2 2), (2, oc_iload 3 3), (3, oc_calls l B m_De_demandRegisters3 3 6), (6, oc_aload 0 7), (7, oc_getf B 0 0 10), (10, oc_iload 1 11), (11, oc_aaload B 12), (12, oc_astore 5 14), (14, oc_aload 0 15), (15, oc_getf B 0 0 18), (18, oc_iload 2 19), (19, oc_aaload B 20), (20, oc_astore 6 22), (22, oc_aload 0 23), (23, oc_aload 5 25), (25, oc_aload 6 27), (27, oc_callv l B 0 m_De_align 2 30), (30, oc_aload 0 31), (31, oc_aload 6 33), (33, oc_getf B 1 1 36), (36, oc_iload 4 38), (38, oc_icmp_eq 45 41), (41, oc_ci (1) 42), (42, oc_goto 46), (45, oc_ci (0) 46), (46, oc_callv l B 0 m_De_addSigned 1 49), (49, oc_aload 0 50), (50, oc_iload 3 51), (51, oc_callv l B 0 m_De_keep 1 54), (54, oc_vret)]
set_option maxRecDepth 20000 in
theorem ok_De_add {l : Launch} {B : zd_B} (hG : zd_G B) (hl : l.stackTraces = false) : ∀ q ∈ cd_De_add l B, zd_ok l B m_De_add q.1 q.2 := by
  unfold cd_De_add
  refine zd_ac (ok_iload_n (l := l) (B := B) (y := m_De_add) (pc := 0) (k := 1) rfl (zd_dr dc_De_add 0 rfl)) ?_
  refine zd_ac (ok_iload_n (l := l) (B := B) (y := m_De_add) (pc := 1) (k := 2) rfl (zd_dr dc_De_add 1 rfl)) ?_
  refine zd_ac (ok_iload_n (l := l) (B := B) (y := m_De_add) (pc := 2) (k := 3) rfl (zd_dr dc_De_add 2 rfl)) ?_
  refine zd_ac (ok_calls (l := l) (B := B) (y := m_De_add) (pc := 3) hG cf_De_add_De_demandRegisters3 rfl (List.mem_of_getElem? (i := 513) (by decide +kernel)) (List.mem_of_getElem? (i := 514) (by decide +kernel)) (List.mem_of_getElem? (i := 56) (by decide +kernel)) (zd_dr dc_De_add 3 rfl)) ?_
  refine zd_ac (ok_aload_n (l := l) (B := B) (y := m_De_add) (pc := 6) (k := 0) rfl (zd_dr dc_De_add 4 rfl)) ?_
  refine zd_ac (ok_getf (l := l) (B := B) (y := m_De_add) (pc := 7) hG (C := zR0) (T := zT0) (N := 8) (ci := 0) (k := 0) rfl zl0 (by decide) (List.mem_of_getElem? (i := 234) (by decide +kernel)) (zd_dr dc_De_add 5 rfl)) ?_
  refine zd_ac (ok_iload_n (l := l) (B := B) (y := m_De_add) (pc := 10) (k := 1) rfl (zd_dr dc_De_add 6 rfl)) ?_
  refine zd_ac (ok_aaload (l := l) (B := B) (y := m_De_add) (pc := 11) hG (zd_dr dc_De_add 7 rfl)) ?_
  refine zd_ac (ok_astore (l := l) (B := B) (y := m_De_add) (pc := 12) (zd_dr dc_De_add 8 rfl) (by decide)) ?_
  refine zd_ac (ok_aload_n (l := l) (B := B) (y := m_De_add) (pc := 14) (k := 0) rfl (zd_dr dc_De_add 9 rfl)) ?_
  refine zd_ac (ok_getf (l := l) (B := B) (y := m_De_add) (pc := 15) hG (C := zR0) (T := zT0) (N := 8) (ci := 0) (k := 0) rfl zl0 (by decide) (List.mem_of_getElem? (i := 234) (by decide +kernel)) (zd_dr dc_De_add 10 rfl)) ?_
  refine zd_ac (ok_iload_n (l := l) (B := B) (y := m_De_add) (pc := 18) (k := 2) rfl (zd_dr dc_De_add 11 rfl)) ?_
  refine zd_ac (ok_aaload (l := l) (B := B) (y := m_De_add) (pc := 19) hG (zd_dr dc_De_add 12 rfl)) ?_
  refine zd_ac (ok_astore (l := l) (B := B) (y := m_De_add) (pc := 20) (zd_dr dc_De_add 13 rfl) (by decide)) ?_
  refine zd_ac (ok_aload_n (l := l) (B := B) (y := m_De_add) (pc := 22) (k := 0) rfl (zd_dr dc_De_add 14 rfl)) ?_
  refine zd_ac (ok_aload (l := l) (B := B) (y := m_De_add) (pc := 23) (zd_dr dc_De_add 15 rfl)) ?_
  refine zd_ac (ok_aload (l := l) (B := B) (y := m_De_add) (pc := 25) (zd_dr dc_De_add 16 rfl)) ?_
  refine zd_ac (ok_callv (l := l) (B := B) (y := m_De_add) (pc := 27) hG (ci := 0) rfl cf_De_add_De_align rfl (List.mem_of_getElem? (i := 519) (by decide +kernel)) (List.mem_of_getElem? (i := 521) (by decide +kernel)) (List.mem_of_getElem? (i := 5) (by decide +kernel)) (zd_dr dc_De_add 17 rfl)) ?_
  refine zd_ac (ok_aload_n (l := l) (B := B) (y := m_De_add) (pc := 30) (k := 0) rfl (zd_dr dc_De_add 18 rfl)) ?_
  refine zd_ac (ok_aload (l := l) (B := B) (y := m_De_add) (pc := 31) (zd_dr dc_De_add 19 rfl)) ?_
  refine zd_ac (ok_getf (l := l) (B := B) (y := m_De_add) (pc := 33) hG (C := zR1) (T := zT1) (N := 3) (ci := 1) (k := 1) rfl zl1 (by decide) (List.mem_of_getElem? (i := 114) (by decide +kernel)) (zd_dr dc_De_add 20 rfl)) ?_
  refine zd_ac (ok_iload (l := l) (B := B) (y := m_De_add) (pc := 36) (zd_dr dc_De_add 21 rfl)) ?_
  refine zd_ac (ok_icmp_eq (l := l) (B := B) (y := m_De_add) (pc := 38) (zd_dr dc_De_add 22 rfl) (by decide)) ?_
  refine zd_ac (ok_iconst (l := l) (B := B) (y := m_De_add) (pc := 41) (n := (1)) (zd_dr dc_De_add 23 rfl) rfl) ?_
  refine zd_ac (ok_goto (l := l) (B := B) (y := m_De_add) (pc := 42) (zd_dr dc_De_add 24 rfl) (by decide)) ?_
  refine zd_ac (ok_iconst (l := l) (B := B) (y := m_De_add) (pc := 45) (n := (0)) (zd_dr dc_De_add 25 rfl) rfl) ?_
  refine zd_ac (ok_callv (l := l) (B := B) (y := m_De_add) (pc := 46) hG (ci := 0) rfl cf_De_add_De_addSigned rfl (List.mem_of_getElem? (i := 552) (by decide +kernel)) (List.mem_of_getElem? (i := 554) (by decide +kernel)) (List.mem_of_getElem? (i := 8) (by decide +kernel)) (zd_dr dc_De_add 26 rfl)) ?_
  refine zd_ac (ok_aload_n (l := l) (B := B) (y := m_De_add) (pc := 49) (k := 0) rfl (zd_dr dc_De_add 27 rfl)) ?_
  refine zd_ac (ok_iload_n (l := l) (B := B) (y := m_De_add) (pc := 50) (k := 3) rfl (zd_dr dc_De_add 28 rfl)) ?_
  refine zd_ac (ok_callv (l := l) (B := B) (y := m_De_add) (pc := 51) hG (ci := 0) rfl cf_De_add_De_keep rfl (List.mem_of_getElem? (i := 466) (by decide +kernel)) (List.mem_of_getElem? (i := 468) (by decide +kernel)) (List.mem_of_getElem? (i := 4) (by decide +kernel)) (zd_dr dc_De_add 29 rfl)) ?_
  refine zd_ac (ok_vret (l := l) (B := B) (y := m_De_add) (pc := 54) rfl (zd_dr dc_De_add 30 rfl)) ?_
  exact zd_an
def dl_De_multiply : List (Nat × Instr × Nat) := [(0, .iload_n 1, 1), (1, .iload_n 2, 1), (2, .iload_n 3, 1), (3, .invokestatic 115, 3), (6, .aload_n 0, 1), (7, .getfield 11, 3), (10, .iload_n 1, 1), (11, .aaload, 1), (12, .astore 4, 2), (14, .aload_n 0, 1), (15, .getfield 11, 3), (18, .iload_n 2, 1), (19, .aaload, 1), (20, .astore 5, 2), (22, .aload_n 0, 1), (23, .getfield 49, 3), (26, .getfield 95, 3), (29, .aload 4, 2), (31, .getfield 131, 3), (34, .aload 5, 2), (36, .getfield 131, 3), (39, .invokevirtual 132, 3), (42, .aload_n 0, 1), (43, .getfield 49, 3), (46, .aload 4, 2), (48, .getfield 123, 3), (51, .aload 5, 2), (53, .getfield 123, 3), (56, .if_icmp .eq (7), 3), (59, .iconst (1), 1), (60, .goto (4), 3), (63, .iconst (0), 1), (64, .aload 4, 2), (66, .getfield 136, 3), (69, .aload 5, 2), (71, .getfield 136, 3), (74, .iadd, 1), (75, .invokevirtual 105, 3), (78, .aload_n 0, 1), (79, .iload_n 3, 1), (80, .invokevirtual 109, 3), (83, .return_, 1)]
theorem dc_De_multiply : ∀ q ∈ dl_De_multiply, decode (zd_yb m_De_multiply) q.1 = .ok q.2 := by decide +kernel
def cd_De_multiply (l : Launch) (B : zd_B) : List (Nat × zd_S) := [(0, oc_iload 1 1), (1, oc_iload 2 2), (2, oc_iload 3 3), (3, oc_calls l B m_De_demandRegisters3 3 6), (6, oc_aload 0 7), (7, oc_getf B 0 0 10), (10, oc_iload 1 11), (11, oc_aaload B 12), (12, oc_astore 4 14), (14, oc_aload 0 15), (15, oc_getf B 0 0 18), (18, oc_iload 2 19), (19, oc_aaload B 20), (20, oc_astore 5 22), (22, oc_aload 0 23), (23, oc_getf B 0 5 26), (26, oc_getf B 6 0 29), (29, oc_aload 4 31), (31, oc_getf B 1 0 34), (34, oc_aload 5 36), (36, oc_getf B 1 0 39), (39, oc_callv l B 4 m_Na_becomeProduct 2 42), (42, oc_aload 0 43), (43, oc_getf B 0 5 46), (46, oc_aload 4 48), (48, oc_getf B 1 1 51), (51, oc_aload 5 53), (53, oc_getf B 1 1 56), (56, oc_icmp_eq 63 59), (59, oc_ci (1) 60), (60, oc_goto 64), (63, oc_ci (0) 64), (64, oc_aload 4 66), (66, oc_getf B 1 2 69), (69, oc_aload 5 71), (71, oc_getf B 1 2 74), (74, oc_iadd 75), (75, oc_callv l B 6 m_Ru_describe 2 78), (78, oc_aload 0 79), (79, oc_iload 3 80), (80, oc_callv l B 0 m_De_keep 1 83), (83, oc_vret)]
set_option maxRecDepth 20000 in
theorem ok_De_multiply {l : Launch} {B : zd_B} (hG : zd_G B) (hl : l.stackTraces = false) : ∀ q ∈ cd_De_multiply l B, zd_ok l B m_De_multiply q.1 q.2 := by
  unfold cd_De_multiply
  refine zd_ac (ok_iload_n (l := l) (B := B) (y := m_De_multiply) (pc := 0) (k := 1) rfl (zd_dr dc_De_multiply 0 rfl)) ?_
  refine zd_ac (ok_iload_n (l := l) (B := B) (y := m_De_multiply) (pc := 1) (k := 2) rfl (zd_dr dc_De_multiply 1 rfl)) ?_
  refine zd_ac (ok_iload_n (l := l) (B := B) (y := m_De_multiply) (pc := 2) (k := 3) rfl (zd_dr dc_De_multiply 2 rfl)) ?_
  refine zd_ac (ok_calls (l := l) (B := B) (y := m_De_multiply) (pc := 3) hG cf_De_multiply_De_demandRegisters3 rfl (List.mem_of_getElem? (i := 513) (by decide +kernel)) (List.mem_of_getElem? (i := 514) (by decide +kernel)) (List.mem_of_getElem? (i := 56) (by decide +kernel)) (zd_dr dc_De_multiply 3 rfl)) ?_
  refine zd_ac (ok_aload_n (l := l) (B := B) (y := m_De_multiply) (pc := 6) (k := 0) rfl (zd_dr dc_De_multiply 4 rfl)) ?_
  refine zd_ac (ok_getf (l := l) (B := B) (y := m_De_multiply) (pc := 7) hG (C := zR0) (T := zT0) (N := 8) (ci := 0) (k := 0) rfl zl0 (by decide) (List.mem_of_getElem? (i := 234) (by decide +kernel)) (zd_dr dc_De_multiply 5 rfl)) ?_
  refine zd_ac (ok_iload_n (l := l) (B := B) (y := m_De_multiply) (pc := 10) (k := 1) rfl (zd_dr dc_De_multiply 6 rfl)) ?_
  refine zd_ac (ok_aaload (l := l) (B := B) (y := m_De_multiply) (pc := 11) hG (zd_dr dc_De_multiply 7 rfl)) ?_
  refine zd_ac (ok_astore (l := l) (B := B) (y := m_De_multiply) (pc := 12) (zd_dr dc_De_multiply 8 rfl) (by decide)) ?_
  refine zd_ac (ok_aload_n (l := l) (B := B) (y := m_De_multiply) (pc := 14) (k := 0) rfl (zd_dr dc_De_multiply 9 rfl)) ?_
  refine zd_ac (ok_getf (l := l) (B := B) (y := m_De_multiply) (pc := 15) hG (C := zR0) (T := zT0) (N := 8) (ci := 0) (k := 0) rfl zl0 (by decide) (List.mem_of_getElem? (i := 234) (by decide +kernel)) (zd_dr dc_De_multiply 10 rfl)) ?_
  refine zd_ac (ok_iload_n (l := l) (B := B) (y := m_De_multiply) (pc := 18) (k := 2) rfl (zd_dr dc_De_multiply 11 rfl)) ?_
  refine zd_ac (ok_aaload (l := l) (B := B) (y := m_De_multiply) (pc := 19) hG (zd_dr dc_De_multiply 12 rfl)) ?_
  refine zd_ac (ok_astore (l := l) (B := B) (y := m_De_multiply) (pc := 20) (zd_dr dc_De_multiply 13 rfl) (by decide)) ?_
  refine zd_ac (ok_aload_n (l := l) (B := B) (y := m_De_multiply) (pc := 22) (k := 0) rfl (zd_dr dc_De_multiply 14 rfl)) ?_
  refine zd_ac (ok_getf (l := l) (B := B) (y := m_De_multiply) (pc := 23) hG (C := zR0) (T := zT0) (N := 8) (ci := 0) (k := 5) rfl zl0 (by decide) (List.mem_of_getElem? (i := 239) (by decide +kernel)) (zd_dr dc_De_multiply 15 rfl)) ?_
  refine zd_ac (ok_getf (l := l) (B := B) (y := m_De_multiply) (pc := 26) hG (C := zR6) (T := zT6) (N := 4) (ci := 6) (k := 0) rfl zl6 (by decide) (List.mem_of_getElem? (i := 214) (by decide +kernel)) (zd_dr dc_De_multiply 16 rfl)) ?_
  refine zd_ac (ok_aload (l := l) (B := B) (y := m_De_multiply) (pc := 29) (zd_dr dc_De_multiply 17 rfl)) ?_
  refine zd_ac (ok_getf (l := l) (B := B) (y := m_De_multiply) (pc := 31) hG (C := zR1) (T := zT1) (N := 3) (ci := 1) (k := 0) rfl zl1 (by decide) (List.mem_of_getElem? (i := 110) (by decide +kernel)) (zd_dr dc_De_multiply 18 rfl)) ?_
  refine zd_ac (ok_aload (l := l) (B := B) (y := m_De_multiply) (pc := 34) (zd_dr dc_De_multiply 19 rfl)) ?_
  refine zd_ac (ok_getf (l := l) (B := B) (y := m_De_multiply) (pc := 36) hG (C := zR1) (T := zT1) (N := 3) (ci := 1) (k := 0) rfl zl1 (by decide) (List.mem_of_getElem? (i := 110) (by decide +kernel)) (zd_dr dc_De_multiply 20 rfl)) ?_
  refine zd_ac (ok_callv (l := l) (B := B) (y := m_De_multiply) (pc := 39) hG (ci := 4) rfl cf_De_multiply_Na_becomeProduct rfl (List.mem_of_getElem? (i := 579) (by decide +kernel)) (List.mem_of_getElem? (i := 580) (by decide +kernel)) (List.mem_of_getElem? (i := 581) (by decide +kernel)) (zd_dr dc_De_multiply 21 rfl)) ?_
  refine zd_ac (ok_aload_n (l := l) (B := B) (y := m_De_multiply) (pc := 42) (k := 0) rfl (zd_dr dc_De_multiply 22 rfl)) ?_
  refine zd_ac (ok_getf (l := l) (B := B) (y := m_De_multiply) (pc := 43) hG (C := zR0) (T := zT0) (N := 8) (ci := 0) (k := 5) rfl zl0 (by decide) (List.mem_of_getElem? (i := 239) (by decide +kernel)) (zd_dr dc_De_multiply 23 rfl)) ?_
  refine zd_ac (ok_aload (l := l) (B := B) (y := m_De_multiply) (pc := 46) (zd_dr dc_De_multiply 24 rfl)) ?_
  refine zd_ac (ok_getf (l := l) (B := B) (y := m_De_multiply) (pc := 48) hG (C := zR1) (T := zT1) (N := 3) (ci := 1) (k := 1) rfl zl1 (by decide) (List.mem_of_getElem? (i := 114) (by decide +kernel)) (zd_dr dc_De_multiply 25 rfl)) ?_
  refine zd_ac (ok_aload (l := l) (B := B) (y := m_De_multiply) (pc := 51) (zd_dr dc_De_multiply 26 rfl)) ?_
  refine zd_ac (ok_getf (l := l) (B := B) (y := m_De_multiply) (pc := 53) hG (C := zR1) (T := zT1) (N := 3) (ci := 1) (k := 1) rfl zl1 (by decide) (List.mem_of_getElem? (i := 114) (by decide +kernel)) (zd_dr dc_De_multiply 27 rfl)) ?_
  refine zd_ac (ok_icmp_eq (l := l) (B := B) (y := m_De_multiply) (pc := 56) (zd_dr dc_De_multiply 28 rfl) (by decide)) ?_
  refine zd_ac (ok_iconst (l := l) (B := B) (y := m_De_multiply) (pc := 59) (n := (1)) (zd_dr dc_De_multiply 29 rfl) rfl) ?_
  refine zd_ac (ok_goto (l := l) (B := B) (y := m_De_multiply) (pc := 60) (zd_dr dc_De_multiply 30 rfl) (by decide)) ?_
  refine zd_ac (ok_iconst (l := l) (B := B) (y := m_De_multiply) (pc := 63) (n := (0)) (zd_dr dc_De_multiply 31 rfl) rfl) ?_
  refine zd_ac (ok_aload (l := l) (B := B) (y := m_De_multiply) (pc := 64) (zd_dr dc_De_multiply 32 rfl)) ?_
  refine zd_ac (ok_getf (l := l) (B := B) (y := m_De_multiply) (pc := 66) hG (C := zR1) (T := zT1) (N := 3) (ci := 1) (k := 2) rfl zl1 (by decide) (List.mem_of_getElem? (i := 118) (by decide +kernel)) (zd_dr dc_De_multiply 33 rfl)) ?_
  refine zd_ac (ok_aload (l := l) (B := B) (y := m_De_multiply) (pc := 69) (zd_dr dc_De_multiply 34 rfl)) ?_
  refine zd_ac (ok_getf (l := l) (B := B) (y := m_De_multiply) (pc := 71) hG (C := zR1) (T := zT1) (N := 3) (ci := 1) (k := 2) rfl zl1 (by decide) (List.mem_of_getElem? (i := 118) (by decide +kernel)) (zd_dr dc_De_multiply 35 rfl)) ?_
  refine zd_ac (ok_iadd (l := l) (B := B) (y := m_De_multiply) (pc := 74) (zd_dr dc_De_multiply 36 rfl)) ?_
  refine zd_ac (ok_callv (l := l) (B := B) (y := m_De_multiply) (pc := 75) hG (ci := 6) rfl cf_De_multiply_Ru_describe rfl (List.mem_of_getElem? (i := 462) (by decide +kernel)) (List.mem_of_getElem? (i := 463) (by decide +kernel)) (List.mem_of_getElem? (i := 464) (by decide +kernel)) (zd_dr dc_De_multiply 37 rfl)) ?_
  refine zd_ac (ok_aload_n (l := l) (B := B) (y := m_De_multiply) (pc := 78) (k := 0) rfl (zd_dr dc_De_multiply 38 rfl)) ?_
  refine zd_ac (ok_iload_n (l := l) (B := B) (y := m_De_multiply) (pc := 79) (k := 3) rfl (zd_dr dc_De_multiply 39 rfl)) ?_
  refine zd_ac (ok_callv (l := l) (B := B) (y := m_De_multiply) (pc := 80) hG (ci := 0) rfl cf_De_multiply_De_keep rfl (List.mem_of_getElem? (i := 466) (by decide +kernel)) (List.mem_of_getElem? (i := 468) (by decide +kernel)) (List.mem_of_getElem? (i := 4) (by decide +kernel)) (zd_dr dc_De_multiply 40 rfl)) ?_
  refine zd_ac (ok_vret (l := l) (B := B) (y := m_De_multiply) (pc := 83) rfl (zd_dr dc_De_multiply 41 rfl)) ?_
  exact zd_an
def dl_De_divide : List (Nat × Instr × Nat) := [(0, .iload_n 1, 1), (1, .iload_n 2, 1), (2, .iload_n 3, 1), (3, .invokestatic 115, 3), (6, .iload 5, 2), (8, .invokestatic 140, 3), (11, .iload 4, 2), (13, .invokestatic 143, 3), (16, .aload_n 0, 1), (17, .getfield 11, 3), (20, .iload_n 2, 1), (21, .aaload, 1), (22, .astore 6, 2), (24, .aload 6, 2), (26, .invokestatic 146, 3), (29, .aload_n 0, 1), (30, .getfield 49, 3), (33, .aload_n 0, 1), (34, .getfield 11, 3), (37, .iload_n 1, 1), (38, .aaload, 1), (39, .invokevirtual 150, 3), (42, .aload_n 0, 1), (43, .aload 6, 2), (45, .iload 4, 2), (47, .iconst (1), 1), (48, .iadd, 1), (49, .aload 6, 2), (51, .getfield 136, 3), (54, .iadd, 1), (55, .invokevirtual 153, 3), (58, .aload_n 0, 1), (59, .getfield 49, 3), (62, .iload 5, 2), (64, .invokevirtual 157, 3), (67, .aload_n 0, 1), (68, .iload_n 3, 1), (69, .invokevirtual 109, 3), (72, .return_, 1)]
theorem dc_De_divide : ∀ q ∈ dl_De_divide, decode (zd_yb m_De_divide) q.1 = .ok q.2 := by decide +kernel
def cd_De_divide (l : Launch) (B : zd_B) : List (Nat × zd_S) := [(0, oc_iload 1 1), (1, oc_iload 2 2), (2, oc_iload 3 3), (3, oc_calls l B m_De_demandRegisters3 3 6), (6, oc_iload 5 8), (8, oc_calls l B m_De_demandMode 1 11), (11, oc_iload 4 13), (13, oc_calls l B m_De_demandWantedScale 1 16), (16, oc_aload 0 17), (17, oc_getf B 0 0 20), (20, oc_iload 2 21), (21, oc_aaload B 22), (22, oc_astore 6 24), (24, oc_aload 6 26), (26, oc_calls l B m_De_demandDivisor 1 29), (29, oc_aload 0 30), (30, oc_getf B 0 5 33), (33, oc_aload 0 34), (34, oc_getf B 0 0 37), (37, oc_iload 1 38), (38, oc_aaload B 39), (39, oc_callv l B 6 m_Ru_take 1 42), (42, oc_aload 0 43), (43, oc_aload 6 45), (45, oc_iload 4 47), (47, oc_ci (1) 48), (48, oc_iadd 49), (49, oc_aload 6 51), (51, oc_getf B 1 2 54), (54, oc_iadd 55), (55, oc_callv l B 0 m_De_divideRough 2 58), (58, oc_aload 0 59), (59, oc_getf B 0 5 62), (62, oc_iload 5 64), (64, oc_callv l B 6 m_Ru_dropGuard 1 67), (67, oc_aload 0 68), (68, oc_iload 3 69), (69, oc_callv l B 0 m_De_keep 1 72), (72, oc_vret)]
set_option maxRecDepth 20000 in
theorem ok_De_divide {l : Launch} {B : zd_B} (hG : zd_G B) (hl : l.stackTraces = false) : ∀ q ∈ cd_De_divide l B, zd_ok l B m_De_divide q.1 q.2 := by
  unfold cd_De_divide
  refine zd_ac (ok_iload_n (l := l) (B := B) (y := m_De_divide) (pc := 0) (k := 1) rfl (zd_dr dc_De_divide 0 rfl)) ?_
  refine zd_ac (ok_iload_n (l := l) (B := B) (y := m_De_divide) (pc := 1) (k := 2) rfl (zd_dr dc_De_divide 1 rfl)) ?_
  refine zd_ac (ok_iload_n (l := l) (B := B) (y := m_De_divide) (pc := 2) (k := 3) rfl (zd_dr dc_De_divide 2 rfl)) ?_
  refine zd_ac (ok_calls (l := l) (B := B) (y := m_De_divide) (pc := 3) hG cf_De_divide_De_demandRegisters3 rfl (List.mem_of_getElem? (i := 513) (by decide +kernel)) (List.mem_of_getElem? (i := 514) (by decide +kernel)) (List.mem_of_getElem? (i := 56) (by decide +kernel)) (zd_dr dc_De_divide 3 rfl)) ?_
  refine zd_ac (ok_iload (l := l) (B := B) (y := m_De_divide) (pc := 6) (zd_dr dc_De_divide 4 rfl)) ?_
  refine zd_ac (ok_calls (l := l) (B := B) (y := m_De_divide) (pc := 8) hG cf_De_divide_De_demandMode rfl (List.mem_of_getElem? (i := 590) (by decide +kernel)) (List.mem_of_getElem? (i := 591) (by decide +kernel)) (List.mem_of_getElem? (i := 56) (by decide +kernel)) (zd_dr dc_De_divide 5 rfl)) ?_
  refine zd_ac (ok_iload (l := l) (B := B) (y := m_De_divide) (pc := 11) (zd_dr dc_De_divide 6 rfl)) ?_
  refine zd_ac (ok_calls (l := l) (B := B) (y := m_De_divide) (pc := 13) hG cf_De_divide_De_demandWantedScale rfl (List.mem_of_getElem? (i := 594) (by decide +kernel)) (List.mem_of_getElem? (i := 595) (by decide +kernel)) (List.mem_of_getElem? (i := 56) (by decide +kernel)) (zd_dr dc_De_divide 7 rfl)) ?_
  refine zd_ac (ok_aload_n (l := l) (B := B) (y := m_De_divide) (pc := 16) (k := 0) rfl (zd_dr dc_De_divide 8 rfl)) ?_
  refine zd_ac (ok_getf (l := l) (B := B) (y := m_De_divide) (pc := 17) hG (C := zR0) (T := zT0) (N := 8) (ci := 0) (k := 0) rfl zl0 (by decide) (List.mem_of_getElem? (i := 234) (by decide +kernel)) (zd_dr dc_De_divide 9 rfl)) ?_
  refine zd_ac (ok_iload_n (l := l) (B := B) (y := m_De_divide) (pc := 20) (k := 2) rfl (zd_dr dc_De_divide 10 rfl)) ?_
  refine zd_ac (ok_aaload (l := l) (B := B) (y := m_De_divide) (pc := 21) hG (zd_dr dc_De_divide 11 rfl)) ?_
  refine zd_ac (ok_astore (l := l) (B := B) (y := m_De_divide) (pc := 22) (zd_dr dc_De_divide 12 rfl) (by decide)) ?_
  refine zd_ac (ok_aload (l := l) (B := B) (y := m_De_divide) (pc := 24) (zd_dr dc_De_divide 13 rfl)) ?_
  refine zd_ac (ok_calls (l := l) (B := B) (y := m_De_divide) (pc := 26) hG cf_De_divide_De_demandDivisor rfl (List.mem_of_getElem? (i := 598) (by decide +kernel)) (List.mem_of_getElem? (i := 599) (by decide +kernel)) (List.mem_of_getElem? (i := 56) (by decide +kernel)) (zd_dr dc_De_divide 14 rfl)) ?_
  refine zd_ac (ok_aload_n (l := l) (B := B) (y := m_De_divide) (pc := 29) (k := 0) rfl (zd_dr dc_De_divide 15 rfl)) ?_
  refine zd_ac (ok_getf (l := l) (B := B) (y := m_De_divide) (pc := 30) hG (C := zR0) (T := zT0) (N := 8) (ci := 0) (k := 5) rfl zl0 (by decide) (List.mem_of_getElem? (i := 239) (by decide +kernel)) (zd_dr dc_De_divide 16 rfl)) ?_
  refine zd_ac (ok_aload_n (l := l) (B := B) (y := m_De_divide) (pc := 33) (k := 0) rfl (zd_dr dc_De_divide 17 rfl)) ?_
  refine zd_ac (ok_getf (l := l) (B := B) (y := m_De_divide) (pc := 34) hG (C := zR0) (T := zT0) (N := 8) (ci := 0) (k := 0) rfl zl0 (by decide) (List.mem_of_getElem? (i := 234) (by decide +kernel)) (zd_dr dc_De_divide 18 rfl)) ?_
  refine zd_ac (ok_iload_n (l := l) (B := B) (y := m_De_divide) (pc := 37) (k := 1) rfl (zd_dr dc_De_divide 19 rfl)) ?_
  refine zd_ac (ok_aaload (l := l) (B := B) (y := m_De_divide) (pc := 38) hG (zd_dr dc_De_divide 20 rfl)) ?_
  refine zd_ac (ok_callv (l := l) (B := B) (y := m_De_divide) (pc := 39) hG (ci := 6) rfl cf_De_divide_Ru_take rfl (List.mem_of_getElem? (i := 526) (by decide +kernel)) (List.mem_of_getElem? (i := 527) (by decide +kernel)) (List.mem_of_getElem? (i := 528) (by decide +kernel)) (zd_dr dc_De_divide 21 rfl)) ?_
  refine zd_ac (ok_aload_n (l := l) (B := B) (y := m_De_divide) (pc := 42) (k := 0) rfl (zd_dr dc_De_divide 22 rfl)) ?_
  refine zd_ac (ok_aload (l := l) (B := B) (y := m_De_divide) (pc := 43) (zd_dr dc_De_divide 23 rfl)) ?_
  refine zd_ac (ok_iload (l := l) (B := B) (y := m_De_divide) (pc := 45) (zd_dr dc_De_divide 24 rfl)) ?_
  refine zd_ac (ok_iconst (l := l) (B := B) (y := m_De_divide) (pc := 47) (n := (1)) (zd_dr dc_De_divide 25 rfl) rfl) ?_
  refine zd_ac (ok_iadd (l := l) (B := B) (y := m_De_divide) (pc := 48) (zd_dr dc_De_divide 26 rfl)) ?_
  refine zd_ac (ok_aload (l := l) (B := B) (y := m_De_divide) (pc := 49) (zd_dr dc_De_divide 27 rfl)) ?_
  refine zd_ac (ok_getf (l := l) (B := B) (y := m_De_divide) (pc := 51) hG (C := zR1) (T := zT1) (N := 3) (ci := 1) (k := 2) rfl zl1 (by decide) (List.mem_of_getElem? (i := 118) (by decide +kernel)) (zd_dr dc_De_divide 28 rfl)) ?_
  refine zd_ac (ok_iadd (l := l) (B := B) (y := m_De_divide) (pc := 54) (zd_dr dc_De_divide 29 rfl)) ?_
  refine zd_ac (ok_callv (l := l) (B := B) (y := m_De_divide) (pc := 55) hG (ci := 0) rfl cf_De_divide_De_divideRough rfl (List.mem_of_getElem? (i := 603) (by decide +kernel)) (List.mem_of_getElem? (i := 605) (by decide +kernel)) (List.mem_of_getElem? (i := 9) (by decide +kernel)) (zd_dr dc_De_divide 30 rfl)) ?_
  refine zd_ac (ok_aload_n (l := l) (B := B) (y := m_De_divide) (pc := 58) (k := 0) rfl (zd_dr dc_De_divide 31 rfl)) ?_
  refine zd_ac (ok_getf (l := l) (B := B) (y := m_De_divide) (pc := 59) hG (C := zR0) (T := zT0) (N := 8) (ci := 0) (k := 5) rfl zl0 (by decide) (List.mem_of_getElem? (i := 239) (by decide +kernel)) (zd_dr dc_De_divide 32 rfl)) ?_
  refine zd_ac (ok_iload (l := l) (B := B) (y := m_De_divide) (pc := 62) (zd_dr dc_De_divide 33 rfl)) ?_
  refine zd_ac (ok_callv (l := l) (B := B) (y := m_De_divide) (pc := 64) hG (ci := 6) rfl cf_De_divide_Ru_dropGuard rfl (List.mem_of_getElem? (i := 643) (by decide +kernel)) (List.mem_of_getElem? (i := 644) (by decide +kernel)) (List.mem_of_getElem? (i := 645) (by decide +kernel)) (zd_dr dc_De_divide 34 rfl)) ?_
  refine zd_ac (ok_aload_n (l := l) (B := B) (y := m_De_divide) (pc := 67) (k := 0) rfl (zd_dr dc_De_divide 35 rfl)) ?_
  refine zd_ac (ok_iload_n (l := l) (B := B) (y := m_De_divide) (pc := 68) (k := 3) rfl (zd_dr dc_De_divide 36 rfl)) ?_
  refine zd_ac (ok_callv (l := l) (B := B) (y := m_De_divide) (pc := 69) hG (ci := 0) rfl cf_De_divide_De_keep rfl (List.mem_of_getElem? (i := 466) (by decide +kernel)) (List.mem_of_getElem? (i := 468) (by decide +kernel)) (List.mem_of_getElem? (i := 4) (by decide +kernel)) (zd_dr dc_De_divide 37 rfl)) ?_
  refine zd_ac (ok_vret (l := l) (B := B) (y := m_De_divide) (pc := 72) rfl (zd_dr dc_De_divide 38 rfl)) ?_
  exact zd_an
def dl_De_quotient : List (Nat × Instr × Nat) := [(0, .iload_n 1, 1), (1, .iload_n 2, 1), (2, .iload_n 3, 1), (3, .invokestatic 115, 3), (6, .iload 5, 2), (8, .invokestatic 140, 3), (11, .iload 4, 2), (13, .iconst (0), 1), (14, .invokestatic 160, 3), (17, .aload_n 0, 1), (18, .getfield 11, 3), (21, .iload_n 1, 1), (22, .aaload, 1), (23, .astore 6, 2), (25, .aload_n 0, 1), (26, .getfield 11, 3), (29, .iload_n 2, 1), (30, .aaload, 1), (31, .astore 7, 2), (33, .aload 7, 2), (35, .invokestatic 146, 3), (38, .iload 4, 2), (40, .ifCond .ne (7), 3), (43, .iconst (1), 1), (44, .goto (4), 3), (47, .iconst (0), 1), (48, .istore 8, 2), (50, .iload 8, 2), (52, .ifCond .eq (9), 3), (55, .sipush (1000), 3), (58, .goto (5), 3), (61, .iload 4, 2), (63, .istore 9, 2), (65, .aload_n 0, 1), (66, .getfield 49, 3), (69, .aload 6, 2), (71, .invokevirtual 150, 3), (74, .aload_n 0, 1), (75, .aload 7, 2), (77, .aload 6, 2), (79, .getfield 136, 3), (82, .iload 9, 2), (84, .iadd, 1), (85, .iconst (1), 1), (86, .iadd, 1), (87, .aload 6, 2), (89, .getfield 131, 3), (92, .invokevirtual 164, 3), (95, .isub, 1), (96, .aload 7, 2), (98, .getfield 131, 3), (101, .invokevirtual 164, 3), (104, .iadd, 1), (105, .invokevirtual 153, 3), (108, .aload_n 0, 1), (109, .getfield 49, 3), (112, .iload 9, 2), (114, .aload 6, 2), (116, .getfield 136, 3), (119, .aload 7, 2), (121, .getfield 136, 3), (124, .isub, 1), (125, .iload 8, 2), (127, .ifCond .eq (8), 3), (130, .bipush (7), 2), (132, .goto (5), 3), (135, .iload 5, 2), (137, .invokevirtual 167, 3), (140, .aload_n 0, 1), (141, .iload_n 3, 1), (142, .invokevirtual 109, 3), (145, .return_, 1)]
theorem dc_De_quotient : ∀ q ∈ dl_De_quotient, decode (zd_yb m_De_quotient) q.1 = .ok q.2 := by decide +kernel
def cd_De_quotient (l : Launch) (B : zd_B) : List (Nat × zd_S) := [(0, oc_iload 1 1), (1, oc_iload 2 2), (2, oc_iload 3 3), (3, oc_calls l B m_De_demandRegisters3 3 6), (6, oc_iload 5 8), (8, oc_calls l B m_De_demandMode 1 11), (11, oc_iload 4 13), (13, oc_ci (0) 14), (14, oc_calls l B m_De_demandPrecision 2 17), (17, oc_aload 0 18), (18, oc_getf B 0 0 21), (21, oc_iload 1 22), (22, oc_aaload B 23), (23, oc_astore 6 25), (25, oc_aload 0 26), (26, oc_getf B 0 0 29), (29, oc_iload 2 30), (30, oc_aaload B 31), (31, oc_astore 7 33), (33, oc_aload 7 35), (35, oc_calls l B m_De_demandDivisor 1 38), (38, oc_iload 4 40), (40, oc_if_ne 47 43), (43, oc_ci (1) 44), (44, oc_goto 48), (47, oc_ci (0) 48), (48, oc_istore 8 50), (50, oc_iload 8 52), (52, oc_if_eq 61 55), (55, oc_ci (1000) 58), (58, oc_goto 63), (61, oc_iload 4 63), (63, oc_istore 9 65), (65, oc_aload 0 66), (66, oc_getf B 0 5 69), (69, oc_aload 6 71), (71, oc_callv l B 6 m_Ru_take 1 74), (74, oc_aload 0 75), (75, oc_aload 7 77), (77, oc_aload 6 79), (79, oc_getf B 1 2 82), (82, oc_iload 9 84), (84, oc_iadd 85), (85, oc_ci (1) 86), (86, oc_iadd 87), (87, oc_aload 6 89), (89, oc_getf B 1 0 92), (92, oc_callv l B 4 m_Na_digits 0 95), (95, oc_isub 96), (96, oc_aload 7 98), (98, oc_getf B 1 0 101), (101, oc_callv l B 4 m_Na_digits 0 104), (104, oc_iadd 105), (105, oc_callv l B 0 m_De_divideRough 2 108), (108, oc_aload 0 109), (109, oc_getf B 0 5 112), (112, oc_iload 9 114), (114, oc_aload 6 116), (116, oc_getf B 1 2 119), (119, oc_aload 7 121), (121, oc_getf B 1 2 124), (124, oc_isub 125), (125, oc_iload 8 127), (127, oc_if_eq 135 130), (130, oc_ci (7) 132), (132, oc_goto 137), (135, oc_iload 5 137), (137, oc_callv l B 6 m_Ru_fitPrecision 3 140), (140, oc_aload 0 141), (141, oc_iload 3 142), (142, oc_callv l B 0 m_De_keep 1 145), (145, oc_vret)]
set_option maxRecDepth 20000 in
theorem ok_De_quotient {l : Launch} {B : zd_B} (hG : zd_G B) (hl : l.stackTraces = false) : ∀ q ∈ cd_De_quotient l B, zd_ok l B m_De_quotient q.1 q.2 := by
  unfold cd_De_quotient
  refine zd_ac (ok_iload_n (l := l) (B := B) (y := m_De_quotient) (pc := 0) (k := 1) rfl (zd_dr dc_De_quotient 0 rfl)) ?_
  refine zd_ac (ok_iload_n (l := l) (B := B) (y := m_De_quotient) (pc := 1) (k := 2) rfl (zd_dr dc_De_quotient 1 rfl)) ?_
  refine zd_ac (ok_iload_n (l := l) (B := B) (y := m_De_quotient) (pc := 2) (k := 3) rfl (zd_dr dc_De_quotient 2 rfl)) ?_
  refine zd_ac (ok_calls (l := l) (B := B) (y := m_De_quotient) (pc := 3) hG cf_De_quotient_De_demandRegisters3 rfl (List.mem_of_getElem? (i := 513) (by decide +kernel)) (List.mem_of_getElem? (i := 514) (by decide +kernel)) (List.mem_of_getElem? (i := 56) (by decide +kernel)) (zd_dr dc_De_quotient 3 rfl)) ?_
  refine zd_ac (ok_iload (l := l) (B := B) (y := m_De_quotient) (pc := 6) (zd_dr dc_De_quotient 4 rfl)) ?_
  refine zd_ac (ok_calls (l := l) (B := B) (y := m_De_quotient) (pc := 8) hG cf_De_quotient_De_demandMode rfl (List.mem_of_getElem? (i := 590) (by decide +kernel)) (List.mem_of_getElem? (i := 591) (by decide +kernel)) (List.mem_of_getElem? (i := 56) (by decide +kernel)) (zd_dr dc_De_quotient 5 rfl)) ?_
  refine zd_ac (ok_iload (l := l) (B := B) (y := m_De_quotient) (pc := 11) (zd_dr dc_De_quotient 6 rfl)) ?_
  refine zd_ac (ok_iconst (l := l) (B := B) (y := m_De_quotient) (pc := 13) (n := (0)) (zd_dr dc_De_quotient 7 rfl) rfl) ?_
  refine zd_ac (ok_calls (l := l) (B := B) (y := m_De_quotient) (pc := 14) hG cf_De_quotient_De_demandPrecision rfl (List.mem_of_getElem? (i := 671) (by decide +kernel)) (List.mem_of_getElem? (i := 672) (by decide +kernel)) (List.mem_of_getElem? (i := 56) (by decide +kernel)) (zd_dr dc_De_quotient 8 rfl)) ?_
  refine zd_ac (ok_aload_n (l := l) (B := B) (y := m_De_quotient) (pc := 17) (k := 0) rfl (zd_dr dc_De_quotient 9 rfl)) ?_
  refine zd_ac (ok_getf (l := l) (B := B) (y := m_De_quotient) (pc := 18) hG (C := zR0) (T := zT0) (N := 8) (ci := 0) (k := 0) rfl zl0 (by decide) (List.mem_of_getElem? (i := 234) (by decide +kernel)) (zd_dr dc_De_quotient 10 rfl)) ?_
  refine zd_ac (ok_iload_n (l := l) (B := B) (y := m_De_quotient) (pc := 21) (k := 1) rfl (zd_dr dc_De_quotient 11 rfl)) ?_
  refine zd_ac (ok_aaload (l := l) (B := B) (y := m_De_quotient) (pc := 22) hG (zd_dr dc_De_quotient 12 rfl)) ?_
  refine zd_ac (ok_astore (l := l) (B := B) (y := m_De_quotient) (pc := 23) (zd_dr dc_De_quotient 13 rfl) (by decide)) ?_
  refine zd_ac (ok_aload_n (l := l) (B := B) (y := m_De_quotient) (pc := 25) (k := 0) rfl (zd_dr dc_De_quotient 14 rfl)) ?_
  refine zd_ac (ok_getf (l := l) (B := B) (y := m_De_quotient) (pc := 26) hG (C := zR0) (T := zT0) (N := 8) (ci := 0) (k := 0) rfl zl0 (by decide) (List.mem_of_getElem? (i := 234) (by decide +kernel)) (zd_dr dc_De_quotient 15 rfl)) ?_
  refine zd_ac (ok_iload_n (l := l) (B := B) (y := m_De_quotient) (pc := 29) (k := 2) rfl (zd_dr dc_De_quotient 16 rfl)) ?_
  refine zd_ac (ok_aaload (l := l) (B := B) (y := m_De_quotient) (pc := 30) hG (zd_dr dc_De_quotient 17 rfl)) ?_
  refine zd_ac (ok_astore (l := l) (B := B) (y := m_De_quotient) (pc := 31) (zd_dr dc_De_quotient 18 rfl) (by decide)) ?_
  refine zd_ac (ok_aload (l := l) (B := B) (y := m_De_quotient) (pc := 33) (zd_dr dc_De_quotient 19 rfl)) ?_
  refine zd_ac (ok_calls (l := l) (B := B) (y := m_De_quotient) (pc := 35) hG cf_De_quotient_De_demandDivisor rfl (List.mem_of_getElem? (i := 598) (by decide +kernel)) (List.mem_of_getElem? (i := 599) (by decide +kernel)) (List.mem_of_getElem? (i := 56) (by decide +kernel)) (zd_dr dc_De_quotient 20 rfl)) ?_
  refine zd_ac (ok_iload (l := l) (B := B) (y := m_De_quotient) (pc := 38) (zd_dr dc_De_quotient 21 rfl)) ?_
  refine zd_ac (ok_if_ne (l := l) (B := B) (y := m_De_quotient) (pc := 40) (zd_dr dc_De_quotient 22 rfl) (by decide)) ?_
  refine zd_ac (ok_iconst (l := l) (B := B) (y := m_De_quotient) (pc := 43) (n := (1)) (zd_dr dc_De_quotient 23 rfl) rfl) ?_
  refine zd_ac (ok_goto (l := l) (B := B) (y := m_De_quotient) (pc := 44) (zd_dr dc_De_quotient 24 rfl) (by decide)) ?_
  refine zd_ac (ok_iconst (l := l) (B := B) (y := m_De_quotient) (pc := 47) (n := (0)) (zd_dr dc_De_quotient 25 rfl) rfl) ?_
  refine zd_ac (ok_istore (l := l) (B := B) (y := m_De_quotient) (pc := 48) (zd_dr dc_De_quotient 26 rfl) (by decide)) ?_
  refine zd_ac (ok_iload (l := l) (B := B) (y := m_De_quotient) (pc := 50) (zd_dr dc_De_quotient 27 rfl)) ?_
  refine zd_ac (ok_if_eq (l := l) (B := B) (y := m_De_quotient) (pc := 52) (zd_dr dc_De_quotient 28 rfl) (by decide)) ?_
  refine zd_ac (ok_sipush (l := l) (B := B) (y := m_De_quotient) (pc := 55) (n := (1000)) (zd_dr dc_De_quotient 29 rfl) rfl) ?_
  refine zd_ac (ok_goto (l := l) (B := B) (y := m_De_quotient) (pc := 58) (zd_dr dc_De_quotient 30 rfl) (by decide)) ?_
  refine zd_ac (ok_iload (l := l) (B := B) (y := m_De_quotient) (pc := 61) (zd_dr dc_De_quotient 31 rfl)) ?_
  refine zd_ac (ok_istore (l := l) (B := B) (y := m_De_quotient) (pc := 63) (zd_dr dc_De_quotient 32 rfl) (by decide)) ?_
  refine zd_ac (ok_aload_n (l := l) (B := B) (y := m_De_quotient) (pc := 65) (k := 0) rfl (zd_dr dc_De_quotient 33 rfl)) ?_
  refine zd_ac (ok_getf (l := l) (B := B) (y := m_De_quotient) (pc := 66) hG (C := zR0) (T := zT0) (N := 8) (ci := 0) (k := 5) rfl zl0 (by decide) (List.mem_of_getElem? (i := 239) (by decide +kernel)) (zd_dr dc_De_quotient 34 rfl)) ?_
  refine zd_ac (ok_aload (l := l) (B := B) (y := m_De_quotient) (pc := 69) (zd_dr dc_De_quotient 35 rfl)) ?_
  refine zd_ac (ok_callv (l := l) (B := B) (y := m_De_quotient) (pc := 71) hG (ci := 6) rfl cf_De_quotient_Ru_take rfl (List.mem_of_getElem? (i := 526) (by decide +kernel)) (List.mem_of_getElem? (i := 527) (by decide +kernel)) (List.mem_of_getElem? (i := 528) (by decide +kernel)) (zd_dr dc_De_quotient 36 rfl)) ?_
  refine zd_ac (ok_aload_n (l := l) (B := B) (y := m_De_quotient) (pc := 74) (k := 0) rfl (zd_dr dc_De_quotient 37 rfl)) ?_
  refine zd_ac (ok_aload (l := l) (B := B) (y := m_De_quotient) (pc := 75) (zd_dr dc_De_quotient 38 rfl)) ?_
  refine zd_ac (ok_aload (l := l) (B := B) (y := m_De_quotient) (pc := 77) (zd_dr dc_De_quotient 39 rfl)) ?_
  refine zd_ac (ok_getf (l := l) (B := B) (y := m_De_quotient) (pc := 79) hG (C := zR1) (T := zT1) (N := 3) (ci := 1) (k := 2) rfl zl1 (by decide) (List.mem_of_getElem? (i := 118) (by decide +kernel)) (zd_dr dc_De_quotient 40 rfl)) ?_
  refine zd_ac (ok_iload (l := l) (B := B) (y := m_De_quotient) (pc := 82) (zd_dr dc_De_quotient 41 rfl)) ?_
  refine zd_ac (ok_iadd (l := l) (B := B) (y := m_De_quotient) (pc := 84) (zd_dr dc_De_quotient 42 rfl)) ?_
  refine zd_ac (ok_iconst (l := l) (B := B) (y := m_De_quotient) (pc := 85) (n := (1)) (zd_dr dc_De_quotient 43 rfl) rfl) ?_
  refine zd_ac (ok_iadd (l := l) (B := B) (y := m_De_quotient) (pc := 86) (zd_dr dc_De_quotient 44 rfl)) ?_
  refine zd_ac (ok_aload (l := l) (B := B) (y := m_De_quotient) (pc := 87) (zd_dr dc_De_quotient 45 rfl)) ?_
  refine zd_ac (ok_getf (l := l) (B := B) (y := m_De_quotient) (pc := 89) hG (C := zR1) (T := zT1) (N := 3) (ci := 1) (k := 0) rfl zl1 (by decide) (List.mem_of_getElem? (i := 110) (by decide +kernel)) (zd_dr dc_De_quotient 46 rfl)) ?_
  refine zd_ac (ok_callv (l := l) (B := B) (y := m_De_quotient) (pc := 92) hG (ci := 4) rfl cf_De_quotient_Na_digits rfl (List.mem_of_getElem? (i := 473) (by decide +kernel)) (List.mem_of_getElem? (i := 474) (by decide +kernel)) (List.mem_of_getElem? (i := 475) (by decide +kernel)) (zd_dr dc_De_quotient 47 rfl)) ?_
  refine zd_ac (ok_isub (l := l) (B := B) (y := m_De_quotient) (pc := 95) (zd_dr dc_De_quotient 48 rfl)) ?_
  refine zd_ac (ok_aload (l := l) (B := B) (y := m_De_quotient) (pc := 96) (zd_dr dc_De_quotient 49 rfl)) ?_
  refine zd_ac (ok_getf (l := l) (B := B) (y := m_De_quotient) (pc := 98) hG (C := zR1) (T := zT1) (N := 3) (ci := 1) (k := 0) rfl zl1 (by decide) (List.mem_of_getElem? (i := 110) (by decide +kernel)) (zd_dr dc_De_quotient 50 rfl)) ?_
  refine zd_ac (ok_callv (l := l) (B := B) (y := m_De_quotient) (pc := 101) hG (ci := 4) rfl cf_De_quotient_Na_digits rfl (List.mem_of_getElem? (i := 473) (by decide +kernel)) (List.mem_of_getElem? (i := 474) (by decide +kernel)) (List.mem_of_getElem? (i := 475) (by decide +kernel)) (zd_dr dc_De_quotient 51 rfl)) ?_
  refine zd_ac (ok_iadd (l := l) (B := B) (y := m_De_quotient) (pc := 104) (zd_dr dc_De_quotient 52 rfl)) ?_
  refine zd_ac (ok_callv (l := l) (B := B) (y := m_De_quotient) (pc := 105) hG (ci := 0) rfl cf_De_quotient_De_divideRough rfl (List.mem_of_getElem? (i := 603) (by decide +kernel)) (List.mem_of_getElem? (i := 605) (by decide +kernel)) (List.mem_of_getElem? (i := 9) (by decide +kernel)) (zd_dr dc_De_quotient 53 rfl)) ?_
  refine zd_ac (ok_aload_n (l := l) (B := B) (y := m_De_quotient) (pc := 108) (k := 0) rfl (zd_dr dc_De_quotient 54 rfl)) ?_
  refine zd_ac (ok_getf (l := l) (B := B) (y := m_De_quotient) (pc := 109) hG (C := zR0) (T := zT0) (N := 8) (ci := 0) (k := 5) rfl zl0 (by decide) (List.mem_of_getElem? (i := 239) (by decide +kernel)) (zd_dr dc_De_quotient 55 rfl)) ?_
  refine zd_ac (ok_iload (l := l) (B := B) (y := m_De_quotient) (pc := 112) (zd_dr dc_De_quotient 56 rfl)) ?_
  refine zd_ac (ok_aload (l := l) (B := B) (y := m_De_quotient) (pc := 114) (zd_dr dc_De_quotient 57 rfl)) ?_
  refine zd_ac (ok_getf (l := l) (B := B) (y := m_De_quotient) (pc := 116) hG (C := zR1) (T := zT1) (N := 3) (ci := 1) (k := 2) rfl zl1 (by decide) (List.mem_of_getElem? (i := 118) (by decide +kernel)) (zd_dr dc_De_quotient 58 rfl)) ?_
  refine zd_ac (ok_aload (l := l) (B := B) (y := m_De_quotient) (pc := 119) (zd_dr dc_De_quotient 59 rfl)) ?_
  refine zd_ac (ok_getf (l := l) (B := B) (y := m_De_quotient) (pc := 121) hG (C := zR1) (T := zT1) (N := 3) (ci := 1) (k := 2) rfl zl1 (by decide) (List.mem_of_getElem? (i := 118) (by decide +kernel)) (zd_dr dc_De_quotient 60 rfl)) ?_
  refine zd_ac (ok_isub (l := l) (B := B) (y := m_De_quotient) (pc := 124) (zd_dr dc_De_quotient 61 rfl)) ?_
  refine zd_ac (ok_iload (l := l) (B := B) (y := m_De_quotient) (pc := 125) (zd_dr dc_De_quotient 62 rfl)) ?_
  refine zd_ac (ok_if_eq (l := l) (B := B) (y := m_De_quotient) (pc := 127) (zd_dr dc_De_quotient 63 rfl) (by decide)) ?_
  refine zd_ac (ok_bipush (l := l) (B := B) (y := m_De_quotient) (pc := 130) (n := (7)) (zd_dr dc_De_quotient 64 rfl) rfl) ?_
  refine zd_ac (ok_goto (l := l) (B := B) (y := m_De_quotient) (pc := 132) (zd_dr dc_De_quotient 65 rfl) (by decide)) ?_
  refine zd_ac (ok_iload (l := l) (B := B) (y := m_De_quotient) (pc := 135) (zd_dr dc_De_quotient 66 rfl)) ?_
  refine zd_ac (ok_callv (l := l) (B := B) (y := m_De_quotient) (pc := 137) hG (ci := 6) rfl cf_De_quotient_Ru_fitPrecision rfl (List.mem_of_getElem? (i := 675) (by decide +kernel)) (List.mem_of_getElem? (i := 676) (by decide +kernel)) (List.mem_of_getElem? (i := 677) (by decide +kernel)) (zd_dr dc_De_quotient 67 rfl)) ?_
  refine zd_ac (ok_aload_n (l := l) (B := B) (y := m_De_quotient) (pc := 140) (k := 0) rfl (zd_dr dc_De_quotient 68 rfl)) ?_
  refine zd_ac (ok_iload_n (l := l) (B := B) (y := m_De_quotient) (pc := 141) (k := 3) rfl (zd_dr dc_De_quotient 69 rfl)) ?_
  refine zd_ac (ok_callv (l := l) (B := B) (y := m_De_quotient) (pc := 142) hG (ci := 0) rfl cf_De_quotient_De_keep rfl (List.mem_of_getElem? (i := 466) (by decide +kernel)) (List.mem_of_getElem? (i := 468) (by decide +kernel)) (List.mem_of_getElem? (i := 4) (by decide +kernel)) (zd_dr dc_De_quotient 70 rfl)) ?_
  refine zd_ac (ok_vret (l := l) (B := B) (y := m_De_quotient) (pc := 145) rfl (zd_dr dc_De_quotient 71 rfl)) ?_
  exact zd_an
def dl_De_remainder : List (Nat × Instr × Nat) := [(0, .iload_n 1, 1), (1, .iload_n 2, 1), (2, .iload_n 3, 1), (3, .invokestatic 115, 3), (6, .aload_n 0, 1), (7, .getfield 11, 3), (10, .iload_n 1, 1), (11, .aaload, 1), (12, .astore 4, 2), (14, .aload_n 0, 1), (15, .getfield 11, 3), (18, .iload_n 2, 1), (19, .aaload, 1), (20, .astore 5, 2), (22, .aload 5, 2), (24, .invokestatic 146, 3), (27, .aload_n 0, 1), (28, .getfield 49, 3), (31, .aload 4, 2), (33, .invokevirtual 150, 3), (36, .aload 4, 2), (38, .getfield 136, 3), (41, .aload 5, 2), (43, .getfield 136, 3), (46, .if_icmp .ge (38), 3), (49, .aload_n 0, 1), (50, .aload 5, 2), (52, .getfield 131, 3), (55, .aload 5, 2), (57, .getfield 136, 3), (60, .aload 4, 2), (62, .getfield 136, 3), (65, .isub, 1), (66, .invokevirtual 170, 3), (69, .aload_n 0, 1), (70, .getfield 49, 3), (73, .aload 5, 2), (75, .getfield 136, 3), (78, .putfield 174, 3), (81, .goto (87), 3), (84, .aload 5, 2), (86, .getfield 131, 3), (89, .invokevirtual 164, 3), (92, .aload 4, 2), (94, .getfield 136, 3), (97, .iadd, 1), (98, .aload 5, 2), (100, .getfield 136, 3), (103, .isub, 1), (104, .aload 4, 2), (106, .getfield 131, 3), (109, .invokevirtual 164, 3), (112, .if_icmp .gt (56), 3), (115, .aload_n 0, 1), (116, .getfield 58, 3), (119, .aload 5, 2), (121, .getfield 131, 3), (124, .invokevirtual 175, 3), (127, .aload_n 0, 1), (128, .getfield 58, 3), (131, .aload 4, 2), (133, .getfield 136, 3), (136, .aload 5, 2), (138, .getfield 136, 3), (141, .isub, 1), (142, .invokevirtual 178, 3), (145, .pop, 1), (146, .aload_n 0, 1), (147, .getfield 33, 3), (150, .aload_n 0, 1), (151, .getfield 49, 3), (154, .getfield 95, 3), (157, .aload_n 0, 1), (158, .getfield 58, 3), (161, .aload_n 0, 1), (162, .getfield 62, 3), (165, .invokevirtual 182, 3), (168, .aload_n 0, 1), (169, .iload_n 3, 1), (170, .invokevirtual 109, 3), (173, .return_, 1)]
theorem dc_De_remainder : ∀ q ∈ dl_De_remainder, decode (zd_yb m_De_remainder) q.1 = .ok q.2 := by decide +kernel
def cd_De_remainder (l : Launch) (B : zd_B) : List (Nat × zd_S) := [(0, oc_iload 1 1), (1, oc_iload 2 2), (2, oc_iload 3 3), (3, oc_calls l B m_De_demandRegisters3 3 6), (6, oc_aload 0 7), (7, oc_getf B 0 0 10), (10, oc_iload 1 11), (11, oc_aaload B 12), (12, oc_astore 4 14), (14, oc_aload 0 15), (15, oc_getf B 0 0 18), (18, oc_iload 2 19), (19, oc_aaload B 20), (20, oc_astore 5 22), (22, oc_aload 5 24), (24, oc_calls l B m_De_demandDivisor 1 27), (27, oc_aload 0 28), (28, oc_getf B 0 5 31), (31, oc_aload 4 33), (33, oc_callv l B 6 m_Ru_take 1 36), (36, oc_aload 4 38), (38, oc_getf B 1 2 41), (41, oc_aload 5 43), (43, oc_getf B 1 2 46), (46, oc_icmp_ge 84 49), (49, oc_aload 0 50), (50, oc_aload 5 52), (52, oc_getf B 1 0 55), (55, oc_aload 5 57), (57, oc_getf B 1 2 60), (60, oc_aload 4 62), (62, oc_getf B 1 2 65), (65, oc_isub 66), (66, oc_callv l B 0 m_De_reduceRaised 2 69), (69, oc_aload 0 70), (70, oc_getf B 0 5 73), (73, oc_aload 5 75), (75, oc_getf B 1 2 78), (78, oc_putf B (zy6 2) 6 2 81), (81, oc_goto 168), (84, oc_aload 5 86), (86, oc_getf B 1 0 89), (89, oc_callv l B 4 m_Na_digits 0 92), (92, oc_aload 4 94), (94, oc_getf B 1 2 97), (97, oc_iadd 98), (98, oc_aload 5 100), (100, oc_getf B 1 2 103), (103, oc_isub 104), (104, oc_aload 4 106), (106, oc_getf B 1 0 109), (109, oc_callv l B 4 m_Na_digits 0 112), (112, oc_icmp_gt 168 115), (115, oc_aload 0 116), (116, oc_getf B 0 6 119), (119, oc_aload 5 121), (121, oc_getf B 1 0 124), (124, oc_callv l B 4 m_Na_copy 1 127), (127, oc_aload 0 128), (128, oc_getf B 0 6 131), (131, oc_aload 4 133), (133, oc_getf B 1 2 136), (136, oc_aload 5 138), (138, oc_getf B 1 2 141), (141, oc_isub 142), (142, oc_callv l B 4 m_Na_move 1 145), (145, oc_pop 146), (146, oc_aload 0 147), (147, oc_getf B 0 3 150), (150, oc_aload 0 151), (151, oc_getf B 0 5 154), (154, oc_getf B 6 0 157), (157, oc_aload 0 158), (158, oc_getf B 0 6 161), (161, oc_aload 0 162), (162, oc_getf B 0 7 165), (165, oc_callv l B 2 m_Dv_split 3 168), (168, oc_aload 0 169), (169, oc_iload 3 170), (170, oc_callv l B 0 m_De_keep 1 173), (173, oc_vret)]
set_option maxRecDepth 20000 in
theorem ok_De_remainder {l : Launch} {B : zd_B} (hG : zd_G B) (hl : l.stackTraces = false) : ∀ q ∈ cd_De_remainder l B, zd_ok l B m_De_remainder q.1 q.2 := by
  unfold cd_De_remainder
  refine zd_ac (ok_iload_n (l := l) (B := B) (y := m_De_remainder) (pc := 0) (k := 1) rfl (zd_dr dc_De_remainder 0 rfl)) ?_
  refine zd_ac (ok_iload_n (l := l) (B := B) (y := m_De_remainder) (pc := 1) (k := 2) rfl (zd_dr dc_De_remainder 1 rfl)) ?_
  refine zd_ac (ok_iload_n (l := l) (B := B) (y := m_De_remainder) (pc := 2) (k := 3) rfl (zd_dr dc_De_remainder 2 rfl)) ?_
  refine zd_ac (ok_calls (l := l) (B := B) (y := m_De_remainder) (pc := 3) hG cf_De_remainder_De_demandRegisters3 rfl (List.mem_of_getElem? (i := 513) (by decide +kernel)) (List.mem_of_getElem? (i := 514) (by decide +kernel)) (List.mem_of_getElem? (i := 56) (by decide +kernel)) (zd_dr dc_De_remainder 3 rfl)) ?_
  refine zd_ac (ok_aload_n (l := l) (B := B) (y := m_De_remainder) (pc := 6) (k := 0) rfl (zd_dr dc_De_remainder 4 rfl)) ?_
  refine zd_ac (ok_getf (l := l) (B := B) (y := m_De_remainder) (pc := 7) hG (C := zR0) (T := zT0) (N := 8) (ci := 0) (k := 0) rfl zl0 (by decide) (List.mem_of_getElem? (i := 234) (by decide +kernel)) (zd_dr dc_De_remainder 5 rfl)) ?_
  refine zd_ac (ok_iload_n (l := l) (B := B) (y := m_De_remainder) (pc := 10) (k := 1) rfl (zd_dr dc_De_remainder 6 rfl)) ?_
  refine zd_ac (ok_aaload (l := l) (B := B) (y := m_De_remainder) (pc := 11) hG (zd_dr dc_De_remainder 7 rfl)) ?_
  refine zd_ac (ok_astore (l := l) (B := B) (y := m_De_remainder) (pc := 12) (zd_dr dc_De_remainder 8 rfl) (by decide)) ?_
  refine zd_ac (ok_aload_n (l := l) (B := B) (y := m_De_remainder) (pc := 14) (k := 0) rfl (zd_dr dc_De_remainder 9 rfl)) ?_
  refine zd_ac (ok_getf (l := l) (B := B) (y := m_De_remainder) (pc := 15) hG (C := zR0) (T := zT0) (N := 8) (ci := 0) (k := 0) rfl zl0 (by decide) (List.mem_of_getElem? (i := 234) (by decide +kernel)) (zd_dr dc_De_remainder 10 rfl)) ?_
  refine zd_ac (ok_iload_n (l := l) (B := B) (y := m_De_remainder) (pc := 18) (k := 2) rfl (zd_dr dc_De_remainder 11 rfl)) ?_
  refine zd_ac (ok_aaload (l := l) (B := B) (y := m_De_remainder) (pc := 19) hG (zd_dr dc_De_remainder 12 rfl)) ?_
  refine zd_ac (ok_astore (l := l) (B := B) (y := m_De_remainder) (pc := 20) (zd_dr dc_De_remainder 13 rfl) (by decide)) ?_
  refine zd_ac (ok_aload (l := l) (B := B) (y := m_De_remainder) (pc := 22) (zd_dr dc_De_remainder 14 rfl)) ?_
  refine zd_ac (ok_calls (l := l) (B := B) (y := m_De_remainder) (pc := 24) hG cf_De_remainder_De_demandDivisor rfl (List.mem_of_getElem? (i := 598) (by decide +kernel)) (List.mem_of_getElem? (i := 599) (by decide +kernel)) (List.mem_of_getElem? (i := 56) (by decide +kernel)) (zd_dr dc_De_remainder 15 rfl)) ?_
  refine zd_ac (ok_aload_n (l := l) (B := B) (y := m_De_remainder) (pc := 27) (k := 0) rfl (zd_dr dc_De_remainder 16 rfl)) ?_
  refine zd_ac (ok_getf (l := l) (B := B) (y := m_De_remainder) (pc := 28) hG (C := zR0) (T := zT0) (N := 8) (ci := 0) (k := 5) rfl zl0 (by decide) (List.mem_of_getElem? (i := 239) (by decide +kernel)) (zd_dr dc_De_remainder 17 rfl)) ?_
  refine zd_ac (ok_aload (l := l) (B := B) (y := m_De_remainder) (pc := 31) (zd_dr dc_De_remainder 18 rfl)) ?_
  refine zd_ac (ok_callv (l := l) (B := B) (y := m_De_remainder) (pc := 33) hG (ci := 6) rfl cf_De_remainder_Ru_take rfl (List.mem_of_getElem? (i := 526) (by decide +kernel)) (List.mem_of_getElem? (i := 527) (by decide +kernel)) (List.mem_of_getElem? (i := 528) (by decide +kernel)) (zd_dr dc_De_remainder 19 rfl)) ?_
  refine zd_ac (ok_aload (l := l) (B := B) (y := m_De_remainder) (pc := 36) (zd_dr dc_De_remainder 20 rfl)) ?_
  refine zd_ac (ok_getf (l := l) (B := B) (y := m_De_remainder) (pc := 38) hG (C := zR1) (T := zT1) (N := 3) (ci := 1) (k := 2) rfl zl1 (by decide) (List.mem_of_getElem? (i := 118) (by decide +kernel)) (zd_dr dc_De_remainder 21 rfl)) ?_
  refine zd_ac (ok_aload (l := l) (B := B) (y := m_De_remainder) (pc := 41) (zd_dr dc_De_remainder 22 rfl)) ?_
  refine zd_ac (ok_getf (l := l) (B := B) (y := m_De_remainder) (pc := 43) hG (C := zR1) (T := zT1) (N := 3) (ci := 1) (k := 2) rfl zl1 (by decide) (List.mem_of_getElem? (i := 118) (by decide +kernel)) (zd_dr dc_De_remainder 23 rfl)) ?_
  refine zd_ac (ok_icmp_ge (l := l) (B := B) (y := m_De_remainder) (pc := 46) (zd_dr dc_De_remainder 24 rfl) (by decide)) ?_
  refine zd_ac (ok_aload_n (l := l) (B := B) (y := m_De_remainder) (pc := 49) (k := 0) rfl (zd_dr dc_De_remainder 25 rfl)) ?_
  refine zd_ac (ok_aload (l := l) (B := B) (y := m_De_remainder) (pc := 50) (zd_dr dc_De_remainder 26 rfl)) ?_
  refine zd_ac (ok_getf (l := l) (B := B) (y := m_De_remainder) (pc := 52) hG (C := zR1) (T := zT1) (N := 3) (ci := 1) (k := 0) rfl zl1 (by decide) (List.mem_of_getElem? (i := 110) (by decide +kernel)) (zd_dr dc_De_remainder 27 rfl)) ?_
  refine zd_ac (ok_aload (l := l) (B := B) (y := m_De_remainder) (pc := 55) (zd_dr dc_De_remainder 28 rfl)) ?_
  refine zd_ac (ok_getf (l := l) (B := B) (y := m_De_remainder) (pc := 57) hG (C := zR1) (T := zT1) (N := 3) (ci := 1) (k := 2) rfl zl1 (by decide) (List.mem_of_getElem? (i := 118) (by decide +kernel)) (zd_dr dc_De_remainder 29 rfl)) ?_
  refine zd_ac (ok_aload (l := l) (B := B) (y := m_De_remainder) (pc := 60) (zd_dr dc_De_remainder 30 rfl)) ?_
  refine zd_ac (ok_getf (l := l) (B := B) (y := m_De_remainder) (pc := 62) hG (C := zR1) (T := zT1) (N := 3) (ci := 1) (k := 2) rfl zl1 (by decide) (List.mem_of_getElem? (i := 118) (by decide +kernel)) (zd_dr dc_De_remainder 31 rfl)) ?_
  refine zd_ac (ok_isub (l := l) (B := B) (y := m_De_remainder) (pc := 65) (zd_dr dc_De_remainder 32 rfl)) ?_
  refine zd_ac (ok_callv (l := l) (B := B) (y := m_De_remainder) (pc := 66) hG (ci := 0) rfl cf_De_remainder_De_reduceRaised rfl (List.mem_of_getElem? (i := 697) (by decide +kernel)) (List.mem_of_getElem? (i := 699) (by decide +kernel)) (List.mem_of_getElem? (i := 15) (by decide +kernel)) (zd_dr dc_De_remainder 33 rfl)) ?_
  refine zd_ac (ok_aload_n (l := l) (B := B) (y := m_De_remainder) (pc := 69) (k := 0) rfl (zd_dr dc_De_remainder 34 rfl)) ?_
  refine zd_ac (ok_getf (l := l) (B := B) (y := m_De_remainder) (pc := 70) hG (C := zR0) (T := zT0) (N := 8) (ci := 0) (k := 5) rfl zl0 (by decide) (List.mem_of_getElem? (i := 239) (by decide +kernel)) (zd_dr dc_De_remainder 35 rfl)) ?_
  refine zd_ac (ok_aload (l := l) (B := B) (y := m_De_remainder) (pc := 73) (zd_dr dc_De_remainder 36 rfl)) ?_
  refine zd_ac (ok_getf (l := l) (B := B) (y := m_De_remainder) (pc := 75) hG (C := zR1) (T := zT1) (N := 3) (ci := 1) (k := 2) rfl zl1 (by decide) (List.mem_of_getElem? (i := 118) (by decide +kernel)) (zd_dr dc_De_remainder 37 rfl)) ?_
  refine zd_ac (ok_putf (l := l) (B := B) (y := m_De_remainder) (pc := 78) hG (C := zR6) (T := zT6) (N := 4) (ci := 6) (k := 2) rfl zl6 zt6 (by decide) (List.mem_of_getElem? (i := 220) (by decide +kernel)) rfl (zd_dr dc_De_remainder 38 rfl)) ?_
  refine zd_ac (ok_goto (l := l) (B := B) (y := m_De_remainder) (pc := 81) (zd_dr dc_De_remainder 39 rfl) (by decide)) ?_
  refine zd_ac (ok_aload (l := l) (B := B) (y := m_De_remainder) (pc := 84) (zd_dr dc_De_remainder 40 rfl)) ?_
  refine zd_ac (ok_getf (l := l) (B := B) (y := m_De_remainder) (pc := 86) hG (C := zR1) (T := zT1) (N := 3) (ci := 1) (k := 0) rfl zl1 (by decide) (List.mem_of_getElem? (i := 110) (by decide +kernel)) (zd_dr dc_De_remainder 41 rfl)) ?_
  refine zd_ac (ok_callv (l := l) (B := B) (y := m_De_remainder) (pc := 89) hG (ci := 4) rfl cf_De_remainder_Na_digits rfl (List.mem_of_getElem? (i := 473) (by decide +kernel)) (List.mem_of_getElem? (i := 474) (by decide +kernel)) (List.mem_of_getElem? (i := 475) (by decide +kernel)) (zd_dr dc_De_remainder 42 rfl)) ?_
  refine zd_ac (ok_aload (l := l) (B := B) (y := m_De_remainder) (pc := 92) (zd_dr dc_De_remainder 43 rfl)) ?_
  refine zd_ac (ok_getf (l := l) (B := B) (y := m_De_remainder) (pc := 94) hG (C := zR1) (T := zT1) (N := 3) (ci := 1) (k := 2) rfl zl1 (by decide) (List.mem_of_getElem? (i := 118) (by decide +kernel)) (zd_dr dc_De_remainder 44 rfl)) ?_
  refine zd_ac (ok_iadd (l := l) (B := B) (y := m_De_remainder) (pc := 97) (zd_dr dc_De_remainder 45 rfl)) ?_
  refine zd_ac (ok_aload (l := l) (B := B) (y := m_De_remainder) (pc := 98) (zd_dr dc_De_remainder 46 rfl)) ?_
  refine zd_ac (ok_getf (l := l) (B := B) (y := m_De_remainder) (pc := 100) hG (C := zR1) (T := zT1) (N := 3) (ci := 1) (k := 2) rfl zl1 (by decide) (List.mem_of_getElem? (i := 118) (by decide +kernel)) (zd_dr dc_De_remainder 47 rfl)) ?_
  refine zd_ac (ok_isub (l := l) (B := B) (y := m_De_remainder) (pc := 103) (zd_dr dc_De_remainder 48 rfl)) ?_
  refine zd_ac (ok_aload (l := l) (B := B) (y := m_De_remainder) (pc := 104) (zd_dr dc_De_remainder 49 rfl)) ?_
  refine zd_ac (ok_getf (l := l) (B := B) (y := m_De_remainder) (pc := 106) hG (C := zR1) (T := zT1) (N := 3) (ci := 1) (k := 0) rfl zl1 (by decide) (List.mem_of_getElem? (i := 110) (by decide +kernel)) (zd_dr dc_De_remainder 50 rfl)) ?_
  refine zd_ac (ok_callv (l := l) (B := B) (y := m_De_remainder) (pc := 109) hG (ci := 4) rfl cf_De_remainder_Na_digits rfl (List.mem_of_getElem? (i := 473) (by decide +kernel)) (List.mem_of_getElem? (i := 474) (by decide +kernel)) (List.mem_of_getElem? (i := 475) (by decide +kernel)) (zd_dr dc_De_remainder 51 rfl)) ?_
  refine zd_ac (ok_icmp_gt (l := l) (B := B) (y := m_De_remainder) (pc := 112) (zd_dr dc_De_remainder 52 rfl) (by decide)) ?_
  refine zd_ac (ok_aload_n (l := l) (B := B) (y := m_De_remainder) (pc := 115) (k := 0) rfl (zd_dr dc_De_remainder 53 rfl)) ?_
  refine zd_ac (ok_getf (l := l) (B := B) (y := m_De_remainder) (pc := 116) hG (C := zR0) (T := zT0) (N := 8) (ci := 0) (k := 6) rfl zl0 (by decide) (List.mem_of_getElem? (i := 240) (by decide +kernel)) (zd_dr dc_De_remainder 54 rfl)) ?_
  refine zd_ac (ok_aload (l := l) (B := B) (y := m_De_remainder) (pc := 119) (zd_dr dc_De_remainder 55 rfl)) ?_
  refine zd_ac (ok_getf (l := l) (B := B) (y := m_De_remainder) (pc := 121) hG (C := zR1) (T := zT1) (N := 3) (ci := 1) (k := 0) rfl zl1 (by decide) (List.mem_of_getElem? (i := 110) (by decide +kernel)) (zd_dr dc_De_remainder 56 rfl)) ?_
  refine zd_ac (ok_callv (l := l) (B := B) (y := m_De_remainder) (pc := 124) hG (ci := 4) rfl cf_De_remainder_Na_copy rfl (List.mem_of_getElem? (i := 550) (by decide +kernel)) (List.mem_of_getElem? (i := 483) (by decide +kernel)) (List.mem_of_getElem? (i := 484) (by decide +kernel)) (zd_dr dc_De_remainder 57 rfl)) ?_
  refine zd_ac (ok_aload_n (l := l) (B := B) (y := m_De_remainder) (pc := 127) (k := 0) rfl (zd_dr dc_De_remainder 58 rfl)) ?_
  refine zd_ac (ok_getf (l := l) (B := B) (y := m_De_remainder) (pc := 128) hG (C := zR0) (T := zT0) (N := 8) (ci := 0) (k := 6) rfl zl0 (by decide) (List.mem_of_getElem? (i := 240) (by decide +kernel)) (zd_dr dc_De_remainder 59 rfl)) ?_
  refine zd_ac (ok_aload (l := l) (B := B) (y := m_De_remainder) (pc := 131) (zd_dr dc_De_remainder 60 rfl)) ?_
  refine zd_ac (ok_getf (l := l) (B := B) (y := m_De_remainder) (pc := 133) hG (C := zR1) (T := zT1) (N := 3) (ci := 1) (k := 2) rfl zl1 (by decide) (List.mem_of_getElem? (i := 118) (by decide +kernel)) (zd_dr dc_De_remainder 61 rfl)) ?_
  refine zd_ac (ok_aload (l := l) (B := B) (y := m_De_remainder) (pc := 136) (zd_dr dc_De_remainder 62 rfl)) ?_
  refine zd_ac (ok_getf (l := l) (B := B) (y := m_De_remainder) (pc := 138) hG (C := zR1) (T := zT1) (N := 3) (ci := 1) (k := 2) rfl zl1 (by decide) (List.mem_of_getElem? (i := 118) (by decide +kernel)) (zd_dr dc_De_remainder 63 rfl)) ?_
  refine zd_ac (ok_isub (l := l) (B := B) (y := m_De_remainder) (pc := 141) (zd_dr dc_De_remainder 64 rfl)) ?_
  refine zd_ac (ok_callv (l := l) (B := B) (y := m_De_remainder) (pc := 142) hG (ci := 4) rfl cf_De_remainder_Na_move rfl (List.mem_of_getElem? (i := 551) (by decide +kernel)) (List.mem_of_getElem? (i := 537) (by decide +kernel)) (List.mem_of_getElem? (i := 538) (by decide +kernel)) (zd_dr dc_De_remainder 65 rfl)) ?_
  refine zd_ac (ok_pop (l := l) (B := B) (y := m_De_remainder) (pc := 145) (zd_dr dc_De_remainder 66 rfl)) ?_
  refine zd_ac (ok_aload_n (l := l) (B := B) (y := m_De_remainder) (pc := 146) (k := 0) rfl (zd_dr dc_De_remainder 67 rfl)) ?_
  refine zd_ac (ok_getf (l := l) (B := B) (y := m_De_remainder) (pc := 147) hG (C := zR0) (T := zT0) (N := 8) (ci := 0) (k := 3) rfl zl0 (by decide) (List.mem_of_getElem? (i := 237) (by decide +kernel)) (zd_dr dc_De_remainder 68 rfl)) ?_
  refine zd_ac (ok_aload_n (l := l) (B := B) (y := m_De_remainder) (pc := 150) (k := 0) rfl (zd_dr dc_De_remainder 69 rfl)) ?_
  refine zd_ac (ok_getf (l := l) (B := B) (y := m_De_remainder) (pc := 151) hG (C := zR0) (T := zT0) (N := 8) (ci := 0) (k := 5) rfl zl0 (by decide) (List.mem_of_getElem? (i := 239) (by decide +kernel)) (zd_dr dc_De_remainder 70 rfl)) ?_
  refine zd_ac (ok_getf (l := l) (B := B) (y := m_De_remainder) (pc := 154) hG (C := zR6) (T := zT6) (N := 4) (ci := 6) (k := 0) rfl zl6 (by decide) (List.mem_of_getElem? (i := 214) (by decide +kernel)) (zd_dr dc_De_remainder 71 rfl)) ?_
  refine zd_ac (ok_aload_n (l := l) (B := B) (y := m_De_remainder) (pc := 157) (k := 0) rfl (zd_dr dc_De_remainder 72 rfl)) ?_
  refine zd_ac (ok_getf (l := l) (B := B) (y := m_De_remainder) (pc := 158) hG (C := zR0) (T := zT0) (N := 8) (ci := 0) (k := 6) rfl zl0 (by decide) (List.mem_of_getElem? (i := 240) (by decide +kernel)) (zd_dr dc_De_remainder 73 rfl)) ?_
  refine zd_ac (ok_aload_n (l := l) (B := B) (y := m_De_remainder) (pc := 161) (k := 0) rfl (zd_dr dc_De_remainder 74 rfl)) ?_
  refine zd_ac (ok_getf (l := l) (B := B) (y := m_De_remainder) (pc := 162) hG (C := zR0) (T := zT0) (N := 8) (ci := 0) (k := 7) rfl zl0 (by decide) (List.mem_of_getElem? (i := 241) (by decide +kernel)) (zd_dr dc_De_remainder 75 rfl)) ?_
  refine zd_ac (ok_callv (l := l) (B := B) (y := m_De_remainder) (pc := 165) hG (ci := 2) rfl cf_De_remainder_Dv_split rfl (List.mem_of_getElem? (i := 607) (by decide +kernel)) (List.mem_of_getElem? (i := 608) (by decide +kernel)) (List.mem_of_getElem? (i := 609) (by decide +kernel)) (zd_dr dc_De_remainder 76 rfl)) ?_
  refine zd_ac (ok_aload_n (l := l) (B := B) (y := m_De_remainder) (pc := 168) (k := 0) rfl (zd_dr dc_De_remainder 77 rfl)) ?_
  refine zd_ac (ok_iload_n (l := l) (B := B) (y := m_De_remainder) (pc := 169) (k := 3) rfl (zd_dr dc_De_remainder 78 rfl)) ?_
  refine zd_ac (ok_callv (l := l) (B := B) (y := m_De_remainder) (pc := 170) hG (ci := 0) rfl cf_De_remainder_De_keep rfl (List.mem_of_getElem? (i := 466) (by decide +kernel)) (List.mem_of_getElem? (i := 468) (by decide +kernel)) (List.mem_of_getElem? (i := 4) (by decide +kernel)) (zd_dr dc_De_remainder 79 rfl)) ?_
  refine zd_ac (ok_vret (l := l) (B := B) (y := m_De_remainder) (pc := 173) rfl (zd_dr dc_De_remainder 80 rfl)) ?_
  exact zd_an
def dl_De_power : List (Nat × Instr × Nat) := [(0, .iload_n 1, 1), (1, .iload_n 3, 1), (2, .invokestatic 186, 3), (5, .iload_n 2, 1), (6, .ifCond .lt (10), 3), (9, .iload_n 2, 1), (10, .sipush (999), 3), (13, .if_icmp .le (13), 3), (16, .new 188, 3), (19, .dup, 1), (20, .ldc 190, 2), (22, .invokespecial 192, 3), (25, .athrow, 1), (26, .aload_n 0, 1), (27, .getfield 11, 3), (30, .iload_n 1, 1), (31, .aaload, 1), (32, .astore 4, 2), (34, .aload_n 0, 1), (35, .getfield 49, 3), (38, .getfield 95, 3), (41, .lconst 1, 1), (42, .invokevirtual 112, 3), (45, .bipush (9), 2), (47, .istore 5, 2), (49, .iload 5, 2), (51, .ifCond .lt (38), 3), (54, .aload_n 0, 1), (55, .aload_n 0, 1), (56, .getfield 49, 3), (59, .getfield 95, 3), (62, .invokevirtual 193, 3), (65, .iload_n 2, 1), (66, .iload 5, 2), (68, .ishr, 1), (69, .iconst (1), 1), (70, .iand, 1), (71, .ifCond .eq (12), 3), (74, .aload_n 0, 1), (75, .aload 4, 2), (77, .getfield 131, 3), (80, .invokevirtual 193, 3), (83, .iinc 5 (-1), 3), (86, .goto (-37), 3), (89, .aload_n 0, 1), (90, .getfield 49, 3), (93, .aload 4, 2), (95, .getfield 123, 3), (98, .ifCond .eq (13), 3), (101, .iload_n 2, 1), (102, .iconst (2), 1), (103, .irem, 1), (104, .ifCond .eq (7), 3), (107, .iconst (1), 1), (108, .goto (4), 3), (111, .iconst (0), 1), (112, .iload_n 2, 1), (113, .aload 4, 2), (115, .getfield 136, 3), (118, .imul, 1), (119, .invokevirtual 105, 3), (122, .aload_n 0, 1), (123, .iload_n 3, 1), (124, .invokevirtual 109, 3), (127, .return_, 1)]
theorem dc_De_power : ∀ q ∈ dl_De_power, decode (zd_yb m_De_power) q.1 = .ok q.2 := by decide +kernel
def cd_De_power (l : Launch) (B : zd_B) : List (Nat × zd_S) := [(0, oc_iload 1 1), (1, oc_iload 3 2), (2, oc_calls l B m_De_demandRegisters2 2 5), (5, oc_iload 2 6), (6, oc_if_lt 16 9), (9, oc_iload 2 10), (10, oc_ci (999) 13), (13, oc_icmp_le 26 16), (16, oc_throw B 9), (26, oc_aload 0 27), (27, oc_getf B 0 0 30), (30, oc_iload 1 31), (31, oc_aaload B 32), (32, oc_astore 4 34), (34, oc_aload 0 35), (35, oc_getf B 0 5 38), (38, oc_getf B 6 0 41), (41, oc_cl 1 42), (42, oc_callv l B 4 m_Na_become 1 45), (45, oc_ci (9) 47), (47, oc_istore 5 49), (49, oc_iload 5 51), (51, oc_if_lt 89 54), (54, oc_aload 0 55), (55, oc_aload 0 56), (56, oc_getf B 0 5 59), (59, oc_getf B 6 0 62), (62, oc_callv l B 0 m_De_growRough 1 65), (65, oc_iload 2 66), (66, oc_iload 5 68), (68, oc_ishr 69), (69, oc_ci (1) 70), (70, oc_iand 71), (71, oc_if_eq 83 74), (74, oc_aload 0 75), (75, oc_aload 4 77), (77, oc_getf B 1 0 80), (80, oc_callv l B 0 m_De_growRough 1 83), (83, oc_iinc 5 (-1) 86), (86, oc_goto 49), (89, oc_aload 0 90), (90, oc_getf B 0 5 93), (93, oc_aload 4 95), (95, oc_getf B 1 1 98), (98, oc_if_eq 111 101), (101, oc_iload 2 102), (102, oc_ci (2) 103), (103, oc_irem 104), (104, oc_if_eq 111 107), (107, oc_ci (1) 108), (108, oc_goto 112), (111, oc_ci (0) 112), (112, oc_iload 2 113), (113, oc_aload 4 115), (115, oc_getf B 1 2 118), (118, oc_imul 119), (119, oc_callv l B 6 m_Ru_describe 2 122), (122, oc_aload 0 123), (123, oc_iload 3 124), (124, oc_callv l B 0 m_De_keep 1 127), (127, oc_vret)]
set_option maxRecDepth 20000 in
theorem ok_De_power {l : Launch} {B : zd_B} (hG : zd_G B) (hl : l.stackTraces = false) : ∀ q ∈ cd_De_power l B, zd_ok l B m_De_power q.1 q.2 := by
  unfold cd_De_power
  refine zd_ac (ok_iload_n (l := l) (B := B) (y := m_De_power) (pc := 0) (k := 1) rfl (zd_dr dc_De_power 0 rfl)) ?_
  refine zd_ac (ok_iload_n (l := l) (B := B) (y := m_De_power) (pc := 1) (k := 3) rfl (zd_dr dc_De_power 1 rfl)) ?_
  refine zd_ac (ok_calls (l := l) (B := B) (y := m_De_power) (pc := 2) hG cf_De_power_De_demandRegisters2 rfl (List.mem_of_getElem? (i := 516) (by decide +kernel)) (List.mem_of_getElem? (i := 517) (by decide +kernel)) (List.mem_of_getElem? (i := 56) (by decide +kernel)) (zd_dr dc_De_power 2 rfl)) ?_
  refine zd_ac (ok_iload_n (l := l) (B := B) (y := m_De_power) (pc := 5) (k := 2) rfl (zd_dr dc_De_power 3 rfl)) ?_
  refine zd_ac (ok_if_lt (l := l) (B := B) (y := m_De_power) (pc := 6) (zd_dr dc_De_power 4 rfl) (by decide)) ?_
  refine zd_ac (ok_iload_n (l := l) (B := B) (y := m_De_power) (pc := 9) (k := 2) rfl (zd_dr dc_De_power 5 rfl)) ?_
  refine zd_ac (ok_sipush (l := l) (B := B) (y := m_De_power) (pc := 10) (n := (999)) (zd_dr dc_De_power 6 rfl) rfl) ?_
  refine zd_ac (ok_icmp_le (l := l) (B := B) (y := m_De_power) (pc := 13) (zd_dr dc_De_power 7 rfl) (by decide)) ?_
  refine zd_ac (ok_throw (l := l) (B := B) (y := m_De_power) (pc := 16) hG hl zE9 zx_De_188_190_192 rfl (by decide) (by decide) (zd_dr dc_De_power 8 rfl) (zd_dr dc_De_power 9 rfl) (zd_dr dc_De_power 10 rfl) (zd_dr dc_De_power 11 rfl) (zd_dr dc_De_power 12 rfl)) ?_
  refine zd_ac (ok_aload_n (l := l) (B := B) (y := m_De_power) (pc := 26) (k := 0) rfl (zd_dr dc_De_power 13 rfl)) ?_
  refine zd_ac (ok_getf (l := l) (B := B) (y := m_De_power) (pc := 27) hG (C := zR0) (T := zT0) (N := 8) (ci := 0) (k := 0) rfl zl0 (by decide) (List.mem_of_getElem? (i := 234) (by decide +kernel)) (zd_dr dc_De_power 14 rfl)) ?_
  refine zd_ac (ok_iload_n (l := l) (B := B) (y := m_De_power) (pc := 30) (k := 1) rfl (zd_dr dc_De_power 15 rfl)) ?_
  refine zd_ac (ok_aaload (l := l) (B := B) (y := m_De_power) (pc := 31) hG (zd_dr dc_De_power 16 rfl)) ?_
  refine zd_ac (ok_astore (l := l) (B := B) (y := m_De_power) (pc := 32) (zd_dr dc_De_power 17 rfl) (by decide)) ?_
  refine zd_ac (ok_aload_n (l := l) (B := B) (y := m_De_power) (pc := 34) (k := 0) rfl (zd_dr dc_De_power 18 rfl)) ?_
  refine zd_ac (ok_getf (l := l) (B := B) (y := m_De_power) (pc := 35) hG (C := zR0) (T := zT0) (N := 8) (ci := 0) (k := 5) rfl zl0 (by decide) (List.mem_of_getElem? (i := 239) (by decide +kernel)) (zd_dr dc_De_power 19 rfl)) ?_
  refine zd_ac (ok_getf (l := l) (B := B) (y := m_De_power) (pc := 38) hG (C := zR6) (T := zT6) (N := 4) (ci := 6) (k := 0) rfl zl6 (by decide) (List.mem_of_getElem? (i := 214) (by decide +kernel)) (zd_dr dc_De_power 20 rfl)) ?_
  refine zd_ac (ok_lconst (l := l) (B := B) (y := m_De_power) (pc := 41) (n := 1) (zd_dr dc_De_power 21 rfl) rfl) ?_
  refine zd_ac (ok_callv (l := l) (B := B) (y := m_De_power) (pc := 42) hG (ci := 4) rfl cf_De_power_Na_become rfl (List.mem_of_getElem? (i := 500) (by decide +kernel)) (List.mem_of_getElem? (i := 501) (by decide +kernel)) (List.mem_of_getElem? (i := 502) (by decide +kernel)) (zd_dr dc_De_power 22 rfl)) ?_
  refine zd_ac (ok_bipush (l := l) (B := B) (y := m_De_power) (pc := 45) (n := (9)) (zd_dr dc_De_power 23 rfl) rfl) ?_
  refine zd_ac (ok_istore (l := l) (B := B) (y := m_De_power) (pc := 47) (zd_dr dc_De_power 24 rfl) (by decide)) ?_
  refine zd_ac (ok_iload (l := l) (B := B) (y := m_De_power) (pc := 49) (zd_dr dc_De_power 25 rfl)) ?_
  refine zd_ac (ok_if_lt (l := l) (B := B) (y := m_De_power) (pc := 51) (zd_dr dc_De_power 26 rfl) (by decide)) ?_
  refine zd_ac (ok_aload_n (l := l) (B := B) (y := m_De_power) (pc := 54) (k := 0) rfl (zd_dr dc_De_power 27 rfl)) ?_
  refine zd_ac (ok_aload_n (l := l) (B := B) (y := m_De_power) (pc := 55) (k := 0) rfl (zd_dr dc_De_power 28 rfl)) ?_
  refine zd_ac (ok_getf (l := l) (B := B) (y := m_De_power) (pc := 56) hG (C := zR0) (T := zT0) (N := 8) (ci := 0) (k := 5) rfl zl0 (by decide) (List.mem_of_getElem? (i := 239) (by decide +kernel)) (zd_dr dc_De_power 29 rfl)) ?_
  refine zd_ac (ok_getf (l := l) (B := B) (y := m_De_power) (pc := 59) hG (C := zR6) (T := zT6) (N := 4) (ci := 6) (k := 0) rfl zl6 (by decide) (List.mem_of_getElem? (i := 214) (by decide +kernel)) (zd_dr dc_De_power 30 rfl)) ?_
  refine zd_ac (ok_callv (l := l) (B := B) (y := m_De_power) (pc := 62) hG (ci := 0) rfl cf_De_power_De_growRough rfl (List.mem_of_getElem? (i := 710) (by decide +kernel)) (List.mem_of_getElem? (i := 712) (by decide +kernel)) (List.mem_of_getElem? (i := 16) (by decide +kernel)) (zd_dr dc_De_power 31 rfl)) ?_
  refine zd_ac (ok_iload_n (l := l) (B := B) (y := m_De_power) (pc := 65) (k := 2) rfl (zd_dr dc_De_power 32 rfl)) ?_
  refine zd_ac (ok_iload (l := l) (B := B) (y := m_De_power) (pc := 66) (zd_dr dc_De_power 33 rfl)) ?_
  refine zd_ac (ok_ishr (l := l) (B := B) (y := m_De_power) (pc := 68) (zd_dr dc_De_power 34 rfl)) ?_
  refine zd_ac (ok_iconst (l := l) (B := B) (y := m_De_power) (pc := 69) (n := (1)) (zd_dr dc_De_power 35 rfl) rfl) ?_
  refine zd_ac (ok_iand (l := l) (B := B) (y := m_De_power) (pc := 70) (zd_dr dc_De_power 36 rfl)) ?_
  refine zd_ac (ok_if_eq (l := l) (B := B) (y := m_De_power) (pc := 71) (zd_dr dc_De_power 37 rfl) (by decide)) ?_
  refine zd_ac (ok_aload_n (l := l) (B := B) (y := m_De_power) (pc := 74) (k := 0) rfl (zd_dr dc_De_power 38 rfl)) ?_
  refine zd_ac (ok_aload (l := l) (B := B) (y := m_De_power) (pc := 75) (zd_dr dc_De_power 39 rfl)) ?_
  refine zd_ac (ok_getf (l := l) (B := B) (y := m_De_power) (pc := 77) hG (C := zR1) (T := zT1) (N := 3) (ci := 1) (k := 0) rfl zl1 (by decide) (List.mem_of_getElem? (i := 110) (by decide +kernel)) (zd_dr dc_De_power 40 rfl)) ?_
  refine zd_ac (ok_callv (l := l) (B := B) (y := m_De_power) (pc := 80) hG (ci := 0) rfl cf_De_power_De_growRough rfl (List.mem_of_getElem? (i := 710) (by decide +kernel)) (List.mem_of_getElem? (i := 712) (by decide +kernel)) (List.mem_of_getElem? (i := 16) (by decide +kernel)) (zd_dr dc_De_power 41 rfl)) ?_
  refine zd_ac (ok_iinc (l := l) (B := B) (y := m_De_power) (pc := 83) (zd_dr dc_De_power 42 rfl) (by decide) rfl) ?_
  refine zd_ac (ok_goto (l := l) (B := B) (y := m_De_power) (pc := 86) (zd_dr dc_De_power 43 rfl) (by decide)) ?_
  refine zd_ac (ok_aload_n (l := l) (B := B) (y := m_De_power) (pc := 89) (k := 0) rfl (zd_dr dc_De_power 44 rfl)) ?_
  refine zd_ac (ok_getf (l := l) (B := B) (y := m_De_power) (pc := 90) hG (C := zR0) (T := zT0) (N := 8) (ci := 0) (k := 5) rfl zl0 (by decide) (List.mem_of_getElem? (i := 239) (by decide +kernel)) (zd_dr dc_De_power 45 rfl)) ?_
  refine zd_ac (ok_aload (l := l) (B := B) (y := m_De_power) (pc := 93) (zd_dr dc_De_power 46 rfl)) ?_
  refine zd_ac (ok_getf (l := l) (B := B) (y := m_De_power) (pc := 95) hG (C := zR1) (T := zT1) (N := 3) (ci := 1) (k := 1) rfl zl1 (by decide) (List.mem_of_getElem? (i := 114) (by decide +kernel)) (zd_dr dc_De_power 47 rfl)) ?_
  refine zd_ac (ok_if_eq (l := l) (B := B) (y := m_De_power) (pc := 98) (zd_dr dc_De_power 48 rfl) (by decide)) ?_
  refine zd_ac (ok_iload_n (l := l) (B := B) (y := m_De_power) (pc := 101) (k := 2) rfl (zd_dr dc_De_power 49 rfl)) ?_
  refine zd_ac (ok_iconst (l := l) (B := B) (y := m_De_power) (pc := 102) (n := (2)) (zd_dr dc_De_power 50 rfl) rfl) ?_
  refine zd_ac (ok_irem (l := l) (B := B) (y := m_De_power) (pc := 103) (zd_dr dc_De_power 51 rfl)) ?_
  refine zd_ac (ok_if_eq (l := l) (B := B) (y := m_De_power) (pc := 104) (zd_dr dc_De_power 52 rfl) (by decide)) ?_
  refine zd_ac (ok_iconst (l := l) (B := B) (y := m_De_power) (pc := 107) (n := (1)) (zd_dr dc_De_power 53 rfl) rfl) ?_
  refine zd_ac (ok_goto (l := l) (B := B) (y := m_De_power) (pc := 108) (zd_dr dc_De_power 54 rfl) (by decide)) ?_
  refine zd_ac (ok_iconst (l := l) (B := B) (y := m_De_power) (pc := 111) (n := (0)) (zd_dr dc_De_power 55 rfl) rfl) ?_
  refine zd_ac (ok_iload_n (l := l) (B := B) (y := m_De_power) (pc := 112) (k := 2) rfl (zd_dr dc_De_power 56 rfl)) ?_
  refine zd_ac (ok_aload (l := l) (B := B) (y := m_De_power) (pc := 113) (zd_dr dc_De_power 57 rfl)) ?_
  refine zd_ac (ok_getf (l := l) (B := B) (y := m_De_power) (pc := 115) hG (C := zR1) (T := zT1) (N := 3) (ci := 1) (k := 2) rfl zl1 (by decide) (List.mem_of_getElem? (i := 118) (by decide +kernel)) (zd_dr dc_De_power 58 rfl)) ?_
  refine zd_ac (ok_imul (l := l) (B := B) (y := m_De_power) (pc := 118) (zd_dr dc_De_power 59 rfl)) ?_
  refine zd_ac (ok_callv (l := l) (B := B) (y := m_De_power) (pc := 119) hG (ci := 6) rfl cf_De_power_Ru_describe rfl (List.mem_of_getElem? (i := 462) (by decide +kernel)) (List.mem_of_getElem? (i := 463) (by decide +kernel)) (List.mem_of_getElem? (i := 464) (by decide +kernel)) (zd_dr dc_De_power 60 rfl)) ?_
  refine zd_ac (ok_aload_n (l := l) (B := B) (y := m_De_power) (pc := 122) (k := 0) rfl (zd_dr dc_De_power 61 rfl)) ?_
  refine zd_ac (ok_iload_n (l := l) (B := B) (y := m_De_power) (pc := 123) (k := 3) rfl (zd_dr dc_De_power 62 rfl)) ?_
  refine zd_ac (ok_callv (l := l) (B := B) (y := m_De_power) (pc := 124) hG (ci := 0) rfl cf_De_power_De_keep rfl (List.mem_of_getElem? (i := 466) (by decide +kernel)) (List.mem_of_getElem? (i := 468) (by decide +kernel)) (List.mem_of_getElem? (i := 4) (by decide +kernel)) (zd_dr dc_De_power 63 rfl)) ?_
  refine zd_ac (ok_vret (l := l) (B := B) (y := m_De_power) (pc := 127) rfl (zd_dr dc_De_power 64 rfl)) ?_
  exact zd_an
def dl_De_root : List (Nat × Instr × Nat) := [(0, .iload_n 1, 1), (1, .iload_n 2, 1), (2, .invokestatic 186, 3), (5, .iload 4, 2), (7, .invokestatic 140, 3), (10, .iload_n 3, 1), (11, .iconst (1), 1), (12, .invokestatic 160, 3), (15, .aload_n 0, 1), (16, .getfield 11, 3), (19, .iload_n 1, 1), (20, .aaload, 1), (21, .astore 5, 2), (23, .aload 5, 2), (25, .getfield 123, 3), (28, .ifCond .eq (13), 3), (31, .new 196, 3), (34, .dup, 1), (35, .ldc 198, 2), (37, .invokespecial 200, 3), (40, .athrow, 1), (41, .aload_n 0, 1), (42, .getfield 49, 3), (45, .aload 5, 2), (47, .invokevirtual 150, 3), (50, .aload 5, 2), (52, .getfield 131, 3), (55, .invokevirtual 201, 3), (58, .ifCond .ne (110), 3), (61, .iconst (2), 1), (62, .iload_n 3, 1), (63, .imul, 1), (64, .aload 5, 2), (66, .getfield 131, 3), (69, .invokevirtual 164, 3), (72, .isub, 1), (73, .aload 5, 2), (75, .getfield 136, 3), (78, .iadd, 1), (79, .iconst (2), 1), (80, .invokestatic 204, 3), (83, .iconst (1), 1), (84, .iadd, 1), (85, .istore 6, 2), (87, .aload_n 0, 1), (88, .getfield 49, 3), (91, .iconst (2), 1), (92, .iload 6, 2), (94, .imul, 1), (95, .invokevirtual 210, 3), (98, .aload_n 0, 1), (99, .getfield 42, 3), (102, .aload_n 0, 1), (103, .getfield 49, 3), (106, .getfield 95, 3), (109, .aload_n 0, 1), (110, .getfield 62, 3), (113, .invokevirtual 213, 3), (116, .istore 7, 2), (118, .aload_n 0, 1), (119, .getfield 49, 3), (122, .getfield 95, 3), (125, .aload_n 0, 1), (126, .getfield 62, 3), (129, .invokevirtual 175, 3), (132, .aload_n 0, 1), (133, .getfield 49, 3), (136, .aload_n 0, 1), (137, .getfield 49, 3), (140, .getfield 217, 3), (143, .ifCond .ne (8), 3), (146, .iload 7, 2), (148, .ifCond .ne (7), 3), (151, .iconst (1), 1), (152, .goto (4), 3), (155, .iconst (0), 1), (156, .putfield 217, 3), (159, .aload_n 0, 1), (160, .getfield 49, 3), (163, .iload 6, 2), (165, .putfield 174, 3), (168, .aload_n 0, 1), (169, .getfield 49, 3), (172, .iload_n 3, 1), (173, .aload 5, 2), (175, .getfield 136, 3), (178, .iconst (2), 1), (179, .invokestatic 204, 3), (182, .iload 4, 2), (184, .invokevirtual 167, 3), (187, .aload_n 0, 1), (188, .iload_n 2, 1), (189, .invokevirtual 109, 3), (192, .return_, 1)]
theorem dc_De_root : ∀ q ∈ dl_De_root, decode (zd_yb m_De_root) q.1 = .ok q.2 := by decide +kernel
def cd_De_root (l : Launch) (B : zd_B) : List (Nat × zd_S) := [(0, oc_iload 1 1), (1, oc_iload 2 2), (2, oc_calls l B m_De_demandRegisters2 2 5), (5, oc_iload 4 7), (7, oc_calls l B m_De_demandMode 1 10), (10, oc_iload 3 11), (11, oc_ci (1) 12), (12, oc_calls l B m_De_demandPrecision 2 15), (15, oc_aload 0 16), (16, oc_getf B 0 0 19), (19, oc_iload 1 20), (20, oc_aaload B 21), (21, oc_astore 5 23), (23, oc_aload 5 25), (25, oc_getf B 1 1 28), (28, oc_if_eq 41 31), (31, oc_throw B 11), (41, oc_aload 0 42), (42, oc_getf B 0 5 45), (45, oc_aload 5 47), (47, oc_callv l B 6 m_Ru_take 1 50), (50, oc_aload 5 52), (52, oc_getf B 1 0 55), (55, oc_callv l B 4 m_Na_isZero 0 58), (58, oc_if_ne 168 61), (61, oc_ci (2) 62), (62, oc_iload 3 63), (63, oc_imul 64), (64, oc_aload 5 66), (66, oc_getf B 1 0 69), (69, oc_callv l B 4 m_Na_digits 0 72), (72, oc_isub 73), (73, oc_aload 5 75), (75, oc_getf B 1 2 78), (78, oc_iadd 79), (79, oc_ci (2) 80), (80, oc_calls l B m_Ma_floorDiv 2 83), (83, oc_ci (1) 84), (84, oc_iadd 85), (85, oc_istore 6 87), (87, oc_aload 0 88), (88, oc_getf B 0 5 91), (91, oc_ci (2) 92), (92, oc_iload 6 94), (94, oc_imul 95), (95, oc_callv l B 6 m_Ru_cutTo 1 98), (98, oc_aload 0 99), (99, oc_getf B 0 4 102), (102, oc_aload 0 103), (103, oc_getf B 0 5 106), (106, oc_getf B 6 0 109), (109, oc_aload 0 110), (110, oc_getf B 0 7 113), (113, oc_callv l B 5 m_Ro_extract 2 116), (116, oc_istore 7 118), (118, oc_aload 0 119), (119, oc_getf B 0 5 122), (122, oc_getf B 6 0 125), (125, oc_aload 0 126), (126, oc_getf B 0 7 129), (129, oc_callv l B 4 m_Na_copy 1 132), (132, oc_aload 0 133), (133, oc_getf B 0 5 136), (136, oc_aload 0 137), (137, oc_getf B 0 5 140), (140, oc_getf B 6 3 143), (143, oc_if_ne 151 146), (146, oc_iload 7 148), (148, oc_if_ne 155 151), (151, oc_ci (1) 152), (152, oc_goto 156), (155, oc_ci (0) 156), (156, oc_putf B (zy6 3) 6 3 159), (159, oc_aload 0 160), (160, oc_getf B 0 5 163), (163, oc_iload 6 165), (165, oc_putf B (zy6 2) 6 2 168), (168, oc_aload 0 169), (169, oc_getf B 0 5 172), (172, oc_iload 3 173), (173, oc_aload 5 175), (175, oc_getf B 1 2 178), (178, oc_ci (2) 179), (179, oc_calls l B m_Ma_floorDiv 2 182), (182, oc_iload 4 184), (184, oc_callv l B 6 m_Ru_fitPrecision 3 187), (187, oc_aload 0 188), (188, oc_iload 2 189), (189, oc_callv l B 0 m_De_keep 1 192), (192, oc_vret)]
set_option maxRecDepth 20000 in
theorem ok_De_root {l : Launch} {B : zd_B} (hG : zd_G B) (hl : l.stackTraces = false) : ∀ q ∈ cd_De_root l B, zd_ok l B m_De_root q.1 q.2 := by
  unfold cd_De_root
  refine zd_ac (ok_iload_n (l := l) (B := B) (y := m_De_root) (pc := 0) (k := 1) rfl (zd_dr dc_De_root 0 rfl)) ?_
  refine zd_ac (ok_iload_n (l := l) (B := B) (y := m_De_root) (pc := 1) (k := 2) rfl (zd_dr dc_De_root 1 rfl)) ?_
  refine zd_ac (ok_calls (l := l) (B := B) (y := m_De_root) (pc := 2) hG cf_De_root_De_demandRegisters2 rfl (List.mem_of_getElem? (i := 516) (by decide +kernel)) (List.mem_of_getElem? (i := 517) (by decide +kernel)) (List.mem_of_getElem? (i := 56) (by decide +kernel)) (zd_dr dc_De_root 2 rfl)) ?_
  refine zd_ac (ok_iload (l := l) (B := B) (y := m_De_root) (pc := 5) (zd_dr dc_De_root 3 rfl)) ?_
  refine zd_ac (ok_calls (l := l) (B := B) (y := m_De_root) (pc := 7) hG cf_De_root_De_demandMode rfl (List.mem_of_getElem? (i := 590) (by decide +kernel)) (List.mem_of_getElem? (i := 591) (by decide +kernel)) (List.mem_of_getElem? (i := 56) (by decide +kernel)) (zd_dr dc_De_root 4 rfl)) ?_
  refine zd_ac (ok_iload_n (l := l) (B := B) (y := m_De_root) (pc := 10) (k := 3) rfl (zd_dr dc_De_root 5 rfl)) ?_
  refine zd_ac (ok_iconst (l := l) (B := B) (y := m_De_root) (pc := 11) (n := (1)) (zd_dr dc_De_root 6 rfl) rfl) ?_
  refine zd_ac (ok_calls (l := l) (B := B) (y := m_De_root) (pc := 12) hG cf_De_root_De_demandPrecision rfl (List.mem_of_getElem? (i := 671) (by decide +kernel)) (List.mem_of_getElem? (i := 672) (by decide +kernel)) (List.mem_of_getElem? (i := 56) (by decide +kernel)) (zd_dr dc_De_root 7 rfl)) ?_
  refine zd_ac (ok_aload_n (l := l) (B := B) (y := m_De_root) (pc := 15) (k := 0) rfl (zd_dr dc_De_root 8 rfl)) ?_
  refine zd_ac (ok_getf (l := l) (B := B) (y := m_De_root) (pc := 16) hG (C := zR0) (T := zT0) (N := 8) (ci := 0) (k := 0) rfl zl0 (by decide) (List.mem_of_getElem? (i := 234) (by decide +kernel)) (zd_dr dc_De_root 9 rfl)) ?_
  refine zd_ac (ok_iload_n (l := l) (B := B) (y := m_De_root) (pc := 19) (k := 1) rfl (zd_dr dc_De_root 10 rfl)) ?_
  refine zd_ac (ok_aaload (l := l) (B := B) (y := m_De_root) (pc := 20) hG (zd_dr dc_De_root 11 rfl)) ?_
  refine zd_ac (ok_astore (l := l) (B := B) (y := m_De_root) (pc := 21) (zd_dr dc_De_root 12 rfl) (by decide)) ?_
  refine zd_ac (ok_aload (l := l) (B := B) (y := m_De_root) (pc := 23) (zd_dr dc_De_root 13 rfl)) ?_
  refine zd_ac (ok_getf (l := l) (B := B) (y := m_De_root) (pc := 25) hG (C := zR1) (T := zT1) (N := 3) (ci := 1) (k := 1) rfl zl1 (by decide) (List.mem_of_getElem? (i := 114) (by decide +kernel)) (zd_dr dc_De_root 14 rfl)) ?_
  refine zd_ac (ok_if_eq (l := l) (B := B) (y := m_De_root) (pc := 28) (zd_dr dc_De_root 15 rfl) (by decide)) ?_
  refine zd_ac (ok_throw (l := l) (B := B) (y := m_De_root) (pc := 31) hG hl zE11 zx_De_196_198_200 rfl (by decide) (by decide) (zd_dr dc_De_root 16 rfl) (zd_dr dc_De_root 17 rfl) (zd_dr dc_De_root 18 rfl) (zd_dr dc_De_root 19 rfl) (zd_dr dc_De_root 20 rfl)) ?_
  refine zd_ac (ok_aload_n (l := l) (B := B) (y := m_De_root) (pc := 41) (k := 0) rfl (zd_dr dc_De_root 21 rfl)) ?_
  refine zd_ac (ok_getf (l := l) (B := B) (y := m_De_root) (pc := 42) hG (C := zR0) (T := zT0) (N := 8) (ci := 0) (k := 5) rfl zl0 (by decide) (List.mem_of_getElem? (i := 239) (by decide +kernel)) (zd_dr dc_De_root 22 rfl)) ?_
  refine zd_ac (ok_aload (l := l) (B := B) (y := m_De_root) (pc := 45) (zd_dr dc_De_root 23 rfl)) ?_
  refine zd_ac (ok_callv (l := l) (B := B) (y := m_De_root) (pc := 47) hG (ci := 6) rfl cf_De_root_Ru_take rfl (List.mem_of_getElem? (i := 526) (by decide +kernel)) (List.mem_of_getElem? (i := 527) (by decide +kernel)) (List.mem_of_getElem? (i := 528) (by decide +kernel)) (zd_dr dc_De_root 24 rfl)) ?_
  refine zd_ac (ok_aload (l := l) (B := B) (y := m_De_root) (pc := 50) (zd_dr dc_De_root 25 rfl)) ?_
  refine zd_ac (ok_getf (l := l) (B := B) (y := m_De_root) (pc := 52) hG (C := zR1) (T := zT1) (N := 3) (ci := 1) (k := 0) rfl zl1 (by decide) (List.mem_of_getElem? (i := 110) (by decide +kernel)) (zd_dr dc_De_root 26 rfl)) ?_
  refine zd_ac (ok_callv (l := l) (B := B) (y := m_De_root) (pc := 55) hG (ci := 4) rfl cf_De_root_Na_isZero rfl (List.mem_of_getElem? (i := 601) (by decide +kernel)) (List.mem_of_getElem? (i := 490) (by decide +kernel)) (List.mem_of_getElem? (i := 491) (by decide +kernel)) (zd_dr dc_De_root 27 rfl)) ?_
  refine zd_ac (ok_if_ne (l := l) (B := B) (y := m_De_root) (pc := 58) (zd_dr dc_De_root 28 rfl) (by decide)) ?_
  refine zd_ac (ok_iconst (l := l) (B := B) (y := m_De_root) (pc := 61) (n := (2)) (zd_dr dc_De_root 29 rfl) rfl) ?_
  refine zd_ac (ok_iload_n (l := l) (B := B) (y := m_De_root) (pc := 62) (k := 3) rfl (zd_dr dc_De_root 30 rfl)) ?_
  refine zd_ac (ok_imul (l := l) (B := B) (y := m_De_root) (pc := 63) (zd_dr dc_De_root 31 rfl)) ?_
  refine zd_ac (ok_aload (l := l) (B := B) (y := m_De_root) (pc := 64) (zd_dr dc_De_root 32 rfl)) ?_
  refine zd_ac (ok_getf (l := l) (B := B) (y := m_De_root) (pc := 66) hG (C := zR1) (T := zT1) (N := 3) (ci := 1) (k := 0) rfl zl1 (by decide) (List.mem_of_getElem? (i := 110) (by decide +kernel)) (zd_dr dc_De_root 33 rfl)) ?_
  refine zd_ac (ok_callv (l := l) (B := B) (y := m_De_root) (pc := 69) hG (ci := 4) rfl cf_De_root_Na_digits rfl (List.mem_of_getElem? (i := 473) (by decide +kernel)) (List.mem_of_getElem? (i := 474) (by decide +kernel)) (List.mem_of_getElem? (i := 475) (by decide +kernel)) (zd_dr dc_De_root 34 rfl)) ?_
  refine zd_ac (ok_isub (l := l) (B := B) (y := m_De_root) (pc := 72) (zd_dr dc_De_root 35 rfl)) ?_
  refine zd_ac (ok_aload (l := l) (B := B) (y := m_De_root) (pc := 73) (zd_dr dc_De_root 36 rfl)) ?_
  refine zd_ac (ok_getf (l := l) (B := B) (y := m_De_root) (pc := 75) hG (C := zR1) (T := zT1) (N := 3) (ci := 1) (k := 2) rfl zl1 (by decide) (List.mem_of_getElem? (i := 118) (by decide +kernel)) (zd_dr dc_De_root 37 rfl)) ?_
  refine zd_ac (ok_iadd (l := l) (B := B) (y := m_De_root) (pc := 78) (zd_dr dc_De_root 38 rfl)) ?_
  refine zd_ac (ok_iconst (l := l) (B := B) (y := m_De_root) (pc := 79) (n := (2)) (zd_dr dc_De_root 39 rfl) rfl) ?_
  refine zd_ac (ok_calls (l := l) (B := B) (y := m_De_root) (pc := 80) hG cf_De_root_Ma_floorDiv rfl (List.mem_of_getElem? (i := 722) (by decide +kernel)) (List.mem_of_getElem? (i := 723) (by decide +kernel)) (List.mem_of_getElem? (i := 72) (by decide +kernel)) (zd_dr dc_De_root 40 rfl)) ?_
  refine zd_ac (ok_iconst (l := l) (B := B) (y := m_De_root) (pc := 83) (n := (1)) (zd_dr dc_De_root 41 rfl) rfl) ?_
  refine zd_ac (ok_iadd (l := l) (B := B) (y := m_De_root) (pc := 84) (zd_dr dc_De_root 42 rfl)) ?_
  refine zd_ac (ok_istore (l := l) (B := B) (y := m_De_root) (pc := 85) (zd_dr dc_De_root 43 rfl) (by decide)) ?_
  refine zd_ac (ok_aload_n (l := l) (B := B) (y := m_De_root) (pc := 87) (k := 0) rfl (zd_dr dc_De_root 44 rfl)) ?_
  refine zd_ac (ok_getf (l := l) (B := B) (y := m_De_root) (pc := 88) hG (C := zR0) (T := zT0) (N := 8) (ci := 0) (k := 5) rfl zl0 (by decide) (List.mem_of_getElem? (i := 239) (by decide +kernel)) (zd_dr dc_De_root 45 rfl)) ?_
  refine zd_ac (ok_iconst (l := l) (B := B) (y := m_De_root) (pc := 91) (n := (2)) (zd_dr dc_De_root 46 rfl) rfl) ?_
  refine zd_ac (ok_iload (l := l) (B := B) (y := m_De_root) (pc := 92) (zd_dr dc_De_root 47 rfl)) ?_
  refine zd_ac (ok_imul (l := l) (B := B) (y := m_De_root) (pc := 94) (zd_dr dc_De_root 48 rfl)) ?_
  refine zd_ac (ok_callv (l := l) (B := B) (y := m_De_root) (pc := 95) hG (ci := 6) rfl cf_De_root_Ru_cutTo rfl (List.mem_of_getElem? (i := 532) (by decide +kernel)) (List.mem_of_getElem? (i := 533) (by decide +kernel)) (List.mem_of_getElem? (i := 534) (by decide +kernel)) (zd_dr dc_De_root 49 rfl)) ?_
  refine zd_ac (ok_aload_n (l := l) (B := B) (y := m_De_root) (pc := 98) (k := 0) rfl (zd_dr dc_De_root 50 rfl)) ?_
  refine zd_ac (ok_getf (l := l) (B := B) (y := m_De_root) (pc := 99) hG (C := zR0) (T := zT0) (N := 8) (ci := 0) (k := 4) rfl zl0 (by decide) (List.mem_of_getElem? (i := 238) (by decide +kernel)) (zd_dr dc_De_root 51 rfl)) ?_
  refine zd_ac (ok_aload_n (l := l) (B := B) (y := m_De_root) (pc := 102) (k := 0) rfl (zd_dr dc_De_root 52 rfl)) ?_
  refine zd_ac (ok_getf (l := l) (B := B) (y := m_De_root) (pc := 103) hG (C := zR0) (T := zT0) (N := 8) (ci := 0) (k := 5) rfl zl0 (by decide) (List.mem_of_getElem? (i := 239) (by decide +kernel)) (zd_dr dc_De_root 53 rfl)) ?_
  refine zd_ac (ok_getf (l := l) (B := B) (y := m_De_root) (pc := 106) hG (C := zR6) (T := zT6) (N := 4) (ci := 6) (k := 0) rfl zl6 (by decide) (List.mem_of_getElem? (i := 214) (by decide +kernel)) (zd_dr dc_De_root 54 rfl)) ?_
  refine zd_ac (ok_aload_n (l := l) (B := B) (y := m_De_root) (pc := 109) (k := 0) rfl (zd_dr dc_De_root 55 rfl)) ?_
  refine zd_ac (ok_getf (l := l) (B := B) (y := m_De_root) (pc := 110) hG (C := zR0) (T := zT0) (N := 8) (ci := 0) (k := 7) rfl zl0 (by decide) (List.mem_of_getElem? (i := 241) (by decide +kernel)) (zd_dr dc_De_root 56 rfl)) ?_
  refine zd_ac (ok_callv (l := l) (B := B) (y := m_De_root) (pc := 113) hG (ci := 5) rfl cf_De_root_Ro_extract rfl (List.mem_of_getElem? (i := 725) (by decide +kernel)) (List.mem_of_getElem? (i := 726) (by decide +kernel)) (List.mem_of_getElem? (i := 727) (by decide +kernel)) (zd_dr dc_De_root 57 rfl)) ?_
  refine zd_ac (ok_istore (l := l) (B := B) (y := m_De_root) (pc := 116) (zd_dr dc_De_root 58 rfl) (by decide)) ?_
  refine zd_ac (ok_aload_n (l := l) (B := B) (y := m_De_root) (pc := 118) (k := 0) rfl (zd_dr dc_De_root 59 rfl)) ?_
  refine zd_ac (ok_getf (l := l) (B := B) (y := m_De_root) (pc := 119) hG (C := zR0) (T := zT0) (N := 8) (ci := 0) (k := 5) rfl zl0 (by decide) (List.mem_of_getElem? (i := 239) (by decide +kernel)) (zd_dr dc_De_root 60 rfl)) ?_
  refine zd_ac (ok_getf (l := l) (B := B) (y := m_De_root) (pc := 122) hG (C := zR6) (T := zT6) (N := 4) (ci := 6) (k := 0) rfl zl6 (by decide) (List.mem_of_getElem? (i := 214) (by decide +kernel)) (zd_dr dc_De_root 61 rfl)) ?_
  refine zd_ac (ok_aload_n (l := l) (B := B) (y := m_De_root) (pc := 125) (k := 0) rfl (zd_dr dc_De_root 62 rfl)) ?_
  refine zd_ac (ok_getf (l := l) (B := B) (y := m_De_root) (pc := 126) hG (C := zR0) (T := zT0) (N := 8) (ci := 0) (k := 7) rfl zl0 (by decide) (List.mem_of_getElem? (i := 241) (by decide +kernel)) (zd_dr dc_De_root 63 rfl)) ?_
  refine zd_ac (ok_callv (l := l) (B := B) (y := m_De_root) (pc := 129) hG (ci := 4) rfl cf_De_root_Na_copy rfl (List.mem_of_getElem? (i := 550) (by decide +kernel)) (List.mem_of_getElem? (i := 483) (by decide +kernel)) (List.mem_of_getElem? (i := 484) (by decide +kernel)) (zd_dr dc_De_root 64 rfl)) ?_
  refine zd_ac (ok_aload_n (l := l) (B := B) (y := m_De_root) (pc := 132) (k := 0) rfl (zd_dr dc_De_root 65 rfl)) ?_
  refine zd_ac (ok_getf (l := l) (B := B) (y := m_De_root) (pc := 133) hG (C := zR0) (T := zT0) (N := 8) (ci := 0) (k := 5) rfl zl0 (by decide) (List.mem_of_getElem? (i := 239) (by decide +kernel)) (zd_dr dc_De_root 66 rfl)) ?_
  refine zd_ac (ok_aload_n (l := l) (B := B) (y := m_De_root) (pc := 136) (k := 0) rfl (zd_dr dc_De_root 67 rfl)) ?_
  refine zd_ac (ok_getf (l := l) (B := B) (y := m_De_root) (pc := 137) hG (C := zR0) (T := zT0) (N := 8) (ci := 0) (k := 5) rfl zl0 (by decide) (List.mem_of_getElem? (i := 239) (by decide +kernel)) (zd_dr dc_De_root 68 rfl)) ?_
  refine zd_ac (ok_getf (l := l) (B := B) (y := m_De_root) (pc := 140) hG (C := zR6) (T := zT6) (N := 4) (ci := 6) (k := 3) rfl zl6 (by decide) (List.mem_of_getElem? (i := 222) (by decide +kernel)) (zd_dr dc_De_root 69 rfl)) ?_
  refine zd_ac (ok_if_ne (l := l) (B := B) (y := m_De_root) (pc := 143) (zd_dr dc_De_root 70 rfl) (by decide)) ?_
  refine zd_ac (ok_iload (l := l) (B := B) (y := m_De_root) (pc := 146) (zd_dr dc_De_root 71 rfl)) ?_
  refine zd_ac (ok_if_ne (l := l) (B := B) (y := m_De_root) (pc := 148) (zd_dr dc_De_root 72 rfl) (by decide)) ?_
  refine zd_ac (ok_iconst (l := l) (B := B) (y := m_De_root) (pc := 151) (n := (1)) (zd_dr dc_De_root 73 rfl) rfl) ?_
  refine zd_ac (ok_goto (l := l) (B := B) (y := m_De_root) (pc := 152) (zd_dr dc_De_root 74 rfl) (by decide)) ?_
  refine zd_ac (ok_iconst (l := l) (B := B) (y := m_De_root) (pc := 155) (n := (0)) (zd_dr dc_De_root 75 rfl) rfl) ?_
  refine zd_ac (ok_putf (l := l) (B := B) (y := m_De_root) (pc := 156) hG (C := zR6) (T := zT6) (N := 4) (ci := 6) (k := 3) rfl zl6 zt6 (by decide) (List.mem_of_getElem? (i := 222) (by decide +kernel)) rfl (zd_dr dc_De_root 76 rfl)) ?_
  refine zd_ac (ok_aload_n (l := l) (B := B) (y := m_De_root) (pc := 159) (k := 0) rfl (zd_dr dc_De_root 77 rfl)) ?_
  refine zd_ac (ok_getf (l := l) (B := B) (y := m_De_root) (pc := 160) hG (C := zR0) (T := zT0) (N := 8) (ci := 0) (k := 5) rfl zl0 (by decide) (List.mem_of_getElem? (i := 239) (by decide +kernel)) (zd_dr dc_De_root 78 rfl)) ?_
  refine zd_ac (ok_iload (l := l) (B := B) (y := m_De_root) (pc := 163) (zd_dr dc_De_root 79 rfl)) ?_
  refine zd_ac (ok_putf (l := l) (B := B) (y := m_De_root) (pc := 165) hG (C := zR6) (T := zT6) (N := 4) (ci := 6) (k := 2) rfl zl6 zt6 (by decide) (List.mem_of_getElem? (i := 220) (by decide +kernel)) rfl (zd_dr dc_De_root 80 rfl)) ?_
  refine zd_ac (ok_aload_n (l := l) (B := B) (y := m_De_root) (pc := 168) (k := 0) rfl (zd_dr dc_De_root 81 rfl)) ?_
  refine zd_ac (ok_getf (l := l) (B := B) (y := m_De_root) (pc := 169) hG (C := zR0) (T := zT0) (N := 8) (ci := 0) (k := 5) rfl zl0 (by decide) (List.mem_of_getElem? (i := 239) (by decide +kernel)) (zd_dr dc_De_root 82 rfl)) ?_
  refine zd_ac (ok_iload_n (l := l) (B := B) (y := m_De_root) (pc := 172) (k := 3) rfl (zd_dr dc_De_root 83 rfl)) ?_
  refine zd_ac (ok_aload (l := l) (B := B) (y := m_De_root) (pc := 173) (zd_dr dc_De_root 84 rfl)) ?_
  refine zd_ac (ok_getf (l := l) (B := B) (y := m_De_root) (pc := 175) hG (C := zR1) (T := zT1) (N := 3) (ci := 1) (k := 2) rfl zl1 (by decide) (List.mem_of_getElem? (i := 118) (by decide +kernel)) (zd_dr dc_De_root 85 rfl)) ?_
  refine zd_ac (ok_iconst (l := l) (B := B) (y := m_De_root) (pc := 178) (n := (2)) (zd_dr dc_De_root 86 rfl) rfl) ?_
  refine zd_ac (ok_calls (l := l) (B := B) (y := m_De_root) (pc := 179) hG cf_De_root_Ma_floorDiv rfl (List.mem_of_getElem? (i := 722) (by decide +kernel)) (List.mem_of_getElem? (i := 723) (by decide +kernel)) (List.mem_of_getElem? (i := 72) (by decide +kernel)) (zd_dr dc_De_root 87 rfl)) ?_
  refine zd_ac (ok_iload (l := l) (B := B) (y := m_De_root) (pc := 182) (zd_dr dc_De_root 88 rfl)) ?_
  refine zd_ac (ok_callv (l := l) (B := B) (y := m_De_root) (pc := 184) hG (ci := 6) rfl cf_De_root_Ru_fitPrecision rfl (List.mem_of_getElem? (i := 675) (by decide +kernel)) (List.mem_of_getElem? (i := 676) (by decide +kernel)) (List.mem_of_getElem? (i := 677) (by decide +kernel)) (zd_dr dc_De_root 89 rfl)) ?_
  refine zd_ac (ok_aload_n (l := l) (B := B) (y := m_De_root) (pc := 187) (k := 0) rfl (zd_dr dc_De_root 90 rfl)) ?_
  refine zd_ac (ok_iload_n (l := l) (B := B) (y := m_De_root) (pc := 188) (k := 2) rfl (zd_dr dc_De_root 91 rfl)) ?_
  refine zd_ac (ok_callv (l := l) (B := B) (y := m_De_root) (pc := 189) hG (ci := 0) rfl cf_De_root_De_keep rfl (List.mem_of_getElem? (i := 466) (by decide +kernel)) (List.mem_of_getElem? (i := 468) (by decide +kernel)) (List.mem_of_getElem? (i := 4) (by decide +kernel)) (zd_dr dc_De_root 92 rfl)) ?_
  refine zd_ac (ok_vret (l := l) (B := B) (y := m_De_root) (pc := 192) rfl (zd_dr dc_De_root 93 rfl)) ?_
  exact zd_an
def dl_De_toScale : List (Nat × Instr × Nat) := [(0, .iload_n 1, 1), (1, .iload_n 2, 1), (2, .invokestatic 186, 3), (5, .iload 4, 2), (7, .invokestatic 140, 3), (10, .iload_n 3, 1), (11, .invokestatic 143, 3), (14, .aload_n 0, 1), (15, .getfield 49, 3), (18, .aload_n 0, 1), (19, .getfield 11, 3), (22, .iload_n 1, 1), (23, .aaload, 1), (24, .invokevirtual 150, 3), (27, .aload_n 0, 1), (28, .getfield 49, 3), (31, .iload_n 3, 1), (32, .iconst (1), 1), (33, .iadd, 1), (34, .invokevirtual 210, 3), (37, .aload_n 0, 1), (38, .getfield 49, 3), (41, .iload 4, 2), (43, .invokevirtual 157, 3), (46, .aload_n 0, 1), (47, .iload_n 2, 1), (48, .invokevirtual 109, 3), (51, .return_, 1)]
theorem dc_De_toScale : ∀ q ∈ dl_De_toScale, decode (zd_yb m_De_toScale) q.1 = .ok q.2 := by decide +kernel
def cd_De_toScale (l : Launch) (B : zd_B) : List (Nat × zd_S) := [(0, oc_iload 1 1), (1, oc_iload 2 2), (2, oc_calls l B m_De_demandRegisters2 2 5), (5, oc_iload 4 7), (7, oc_calls l B m_De_demandMode 1 10), (10, oc_iload 3 11), (11, oc_calls l B m_De_demandWantedScale 1 14), (14, oc_aload 0 15), (15, oc_getf B 0 5 18), (18, oc_aload 0 19), (19, oc_getf B 0 0 22), (22, oc_iload 1 23), (23, oc_aaload B 24), (24, oc_callv l B 6 m_Ru_take 1 27), (27, oc_aload 0 28), (28, oc_getf B 0 5 31), (31, oc_iload 3 32), (32, oc_ci (1) 33), (33, oc_iadd 34), (34, oc_callv l B 6 m_Ru_cutTo 1 37), (37, oc_aload 0 38), (38, oc_getf B 0 5 41), (41, oc_iload 4 43), (43, oc_callv l B 6 m_Ru_dropGuard 1 46), (46, oc_aload 0 47), (47, oc_iload 2 48), (48, oc_callv l B 0 m_De_keep 1 51), (51, oc_vret)]
set_option maxRecDepth 20000 in
theorem ok_De_toScale {l : Launch} {B : zd_B} (hG : zd_G B) (hl : l.stackTraces = false) : ∀ q ∈ cd_De_toScale l B, zd_ok l B m_De_toScale q.1 q.2 := by
  unfold cd_De_toScale
  refine zd_ac (ok_iload_n (l := l) (B := B) (y := m_De_toScale) (pc := 0) (k := 1) rfl (zd_dr dc_De_toScale 0 rfl)) ?_
  refine zd_ac (ok_iload_n (l := l) (B := B) (y := m_De_toScale) (pc := 1) (k := 2) rfl (zd_dr dc_De_toScale 1 rfl)) ?_
  refine zd_ac (ok_calls (l := l) (B := B) (y := m_De_toScale) (pc := 2) hG cf_De_toScale_De_demandRegisters2 rfl (List.mem_of_getElem? (i := 516) (by decide +kernel)) (List.mem_of_getElem? (i := 517) (by decide +kernel)) (List.mem_of_getElem? (i := 56) (by decide +kernel)) (zd_dr dc_De_toScale 2 rfl)) ?_
  refine zd_ac (ok_iload (l := l) (B := B) (y := m_De_toScale) (pc := 5) (zd_dr dc_De_toScale 3 rfl)) ?_
  refine zd_ac (ok_calls (l := l) (B := B) (y := m_De_toScale) (pc := 7) hG cf_De_toScale_De_demandMode rfl (List.mem_of_getElem? (i := 590) (by decide +kernel)) (List.mem_of_getElem? (i := 591) (by decide +kernel)) (List.mem_of_getElem? (i := 56) (by decide +kernel)) (zd_dr dc_De_toScale 4 rfl)) ?_
  refine zd_ac (ok_iload_n (l := l) (B := B) (y := m_De_toScale) (pc := 10) (k := 3) rfl (zd_dr dc_De_toScale 5 rfl)) ?_
  refine zd_ac (ok_calls (l := l) (B := B) (y := m_De_toScale) (pc := 11) hG cf_De_toScale_De_demandWantedScale rfl (List.mem_of_getElem? (i := 594) (by decide +kernel)) (List.mem_of_getElem? (i := 595) (by decide +kernel)) (List.mem_of_getElem? (i := 56) (by decide +kernel)) (zd_dr dc_De_toScale 6 rfl)) ?_
  refine zd_ac (ok_aload_n (l := l) (B := B) (y := m_De_toScale) (pc := 14) (k := 0) rfl (zd_dr dc_De_toScale 7 rfl)) ?_
  refine zd_ac (ok_getf (l := l) (B := B) (y := m_De_toScale) (pc := 15) hG (C := zR0) (T := zT0) (N := 8) (ci := 0) (k := 5) rfl zl0 (by decide) (List.mem_of_getElem? (i := 239) (by decide +kernel)) (zd_dr dc_De_toScale 8 rfl)) ?_
  refine zd_ac (ok_aload_n (l := l) (B := B) (y := m_De_toScale) (pc := 18) (k := 0) rfl (zd_dr dc_De_toScale 9 rfl)) ?_
  refine zd_ac (ok_getf (l := l) (B := B) (y := m_De_toScale) (pc := 19) hG (C := zR0) (T := zT0) (N := 8) (ci := 0) (k := 0) rfl zl0 (by decide) (List.mem_of_getElem? (i := 234) (by decide +kernel)) (zd_dr dc_De_toScale 10 rfl)) ?_
  refine zd_ac (ok_iload_n (l := l) (B := B) (y := m_De_toScale) (pc := 22) (k := 1) rfl (zd_dr dc_De_toScale 11 rfl)) ?_
  refine zd_ac (ok_aaload (l := l) (B := B) (y := m_De_toScale) (pc := 23) hG (zd_dr dc_De_toScale 12 rfl)) ?_
  refine zd_ac (ok_callv (l := l) (B := B) (y := m_De_toScale) (pc := 24) hG (ci := 6) rfl cf_De_toScale_Ru_take rfl (List.mem_of_getElem? (i := 526) (by decide +kernel)) (List.mem_of_getElem? (i := 527) (by decide +kernel)) (List.mem_of_getElem? (i := 528) (by decide +kernel)) (zd_dr dc_De_toScale 13 rfl)) ?_
  refine zd_ac (ok_aload_n (l := l) (B := B) (y := m_De_toScale) (pc := 27) (k := 0) rfl (zd_dr dc_De_toScale 14 rfl)) ?_
  refine zd_ac (ok_getf (l := l) (B := B) (y := m_De_toScale) (pc := 28) hG (C := zR0) (T := zT0) (N := 8) (ci := 0) (k := 5) rfl zl0 (by decide) (List.mem_of_getElem? (i := 239) (by decide +kernel)) (zd_dr dc_De_toScale 15 rfl)) ?_
  refine zd_ac (ok_iload_n (l := l) (B := B) (y := m_De_toScale) (pc := 31) (k := 3) rfl (zd_dr dc_De_toScale 16 rfl)) ?_
  refine zd_ac (ok_iconst (l := l) (B := B) (y := m_De_toScale) (pc := 32) (n := (1)) (zd_dr dc_De_toScale 17 rfl) rfl) ?_
  refine zd_ac (ok_iadd (l := l) (B := B) (y := m_De_toScale) (pc := 33) (zd_dr dc_De_toScale 18 rfl)) ?_
  refine zd_ac (ok_callv (l := l) (B := B) (y := m_De_toScale) (pc := 34) hG (ci := 6) rfl cf_De_toScale_Ru_cutTo rfl (List.mem_of_getElem? (i := 532) (by decide +kernel)) (List.mem_of_getElem? (i := 533) (by decide +kernel)) (List.mem_of_getElem? (i := 534) (by decide +kernel)) (zd_dr dc_De_toScale 19 rfl)) ?_
  refine zd_ac (ok_aload_n (l := l) (B := B) (y := m_De_toScale) (pc := 37) (k := 0) rfl (zd_dr dc_De_toScale 20 rfl)) ?_
  refine zd_ac (ok_getf (l := l) (B := B) (y := m_De_toScale) (pc := 38) hG (C := zR0) (T := zT0) (N := 8) (ci := 0) (k := 5) rfl zl0 (by decide) (List.mem_of_getElem? (i := 239) (by decide +kernel)) (zd_dr dc_De_toScale 21 rfl)) ?_
  refine zd_ac (ok_iload (l := l) (B := B) (y := m_De_toScale) (pc := 41) (zd_dr dc_De_toScale 22 rfl)) ?_
  refine zd_ac (ok_callv (l := l) (B := B) (y := m_De_toScale) (pc := 43) hG (ci := 6) rfl cf_De_toScale_Ru_dropGuard rfl (List.mem_of_getElem? (i := 643) (by decide +kernel)) (List.mem_of_getElem? (i := 644) (by decide +kernel)) (List.mem_of_getElem? (i := 645) (by decide +kernel)) (zd_dr dc_De_toScale 23 rfl)) ?_
  refine zd_ac (ok_aload_n (l := l) (B := B) (y := m_De_toScale) (pc := 46) (k := 0) rfl (zd_dr dc_De_toScale 24 rfl)) ?_
  refine zd_ac (ok_iload_n (l := l) (B := B) (y := m_De_toScale) (pc := 47) (k := 2) rfl (zd_dr dc_De_toScale 25 rfl)) ?_
  refine zd_ac (ok_callv (l := l) (B := B) (y := m_De_toScale) (pc := 48) hG (ci := 0) rfl cf_De_toScale_De_keep rfl (List.mem_of_getElem? (i := 466) (by decide +kernel)) (List.mem_of_getElem? (i := 468) (by decide +kernel)) (List.mem_of_getElem? (i := 4) (by decide +kernel)) (zd_dr dc_De_toScale 26 rfl)) ?_
  refine zd_ac (ok_vret (l := l) (B := B) (y := m_De_toScale) (pc := 51) rfl (zd_dr dc_De_toScale 27 rfl)) ?_
  exact zd_an
def dl_De_round : List (Nat × Instr × Nat) := [(0, .iload_n 1, 1), (1, .iload_n 2, 1), (2, .invokestatic 186, 3), (5, .iload 4, 2), (7, .invokestatic 140, 3), (10, .iload_n 3, 1), (11, .iconst (1), 1), (12, .invokestatic 160, 3), (15, .aload_n 0, 1), (16, .getfield 11, 3), (19, .iload_n 1, 1), (20, .aaload, 1), (21, .astore 5, 2), (23, .aload_n 0, 1), (24, .getfield 49, 3), (27, .aload 5, 2), (29, .invokevirtual 150, 3), (32, .aload_n 0, 1), (33, .getfield 49, 3), (36, .iload_n 3, 1), (37, .aload 5, 2), (39, .getfield 136, 3), (42, .iload 4, 2), (44, .invokevirtual 167, 3), (47, .aload_n 0, 1), (48, .iload_n 2, 1), (49, .invokevirtual 109, 3), (52, .return_, 1)]
theorem dc_De_round : ∀ q ∈ dl_De_round, decode (zd_yb m_De_round) q.1 = .ok q.2 := by decide +kernel
def cd_De_round (l : Launch) (B : zd_B) : List (Nat × zd_S) := [(0, oc_iload 1 1), (1, oc_iload 2 2), (2, oc_calls l B m_De_demandRegisters2 2 5), (5, oc_iload 4 7), (7, oc_calls l B m_De_demandMode 1 10), (10, oc_iload 3 11), (11, oc_ci (1) 12), (12, oc_calls l B m_De_demandPrecision 2 15), (15, oc_aload 0 16), (16, oc_getf B 0 0 19), (19, oc_iload 1 20), (20, oc_aaload B 21), (21, oc_astore 5 23), (23, oc_aload 0 24), (24, oc_getf B 0 5 27), (27, oc_aload 5 29), (29, oc_callv l B 6 m_Ru_take 1 32), (32, oc_aload 0 33), (33, oc_getf B 0 5 36), (36, oc_iload 3 37), (37, oc_aload 5 39), (39, oc_getf B 1 2 42), (42, oc_iload 4 44), (44, oc_callv l B 6 m_Ru_fitPrecision 3 47), (47, oc_aload 0 48), (48, oc_iload 2 49), (49, oc_callv l B 0 m_De_keep 1 52), (52, oc_vret)]
set_option maxRecDepth 20000 in
theorem ok_De_round {l : Launch} {B : zd_B} (hG : zd_G B) (hl : l.stackTraces = false) : ∀ q ∈ cd_De_round l B, zd_ok l B m_De_round q.1 q.2 := by
  unfold cd_De_round
  refine zd_ac (ok_iload_n (l := l) (B := B) (y := m_De_round) (pc := 0) (k := 1) rfl (zd_dr dc_De_round 0 rfl)) ?_
  refine zd_ac (ok_iload_n (l := l) (B := B) (y := m_De_round) (pc := 1) (k := 2) rfl (zd_dr dc_De_round 1 rfl)) ?_
  refine zd_ac (ok_calls (l := l) (B := B) (y := m_De_round) (pc := 2) hG cf_De_round_De_demandRegisters2 rfl (List.mem_of_getElem? (i := 516) (by decide +kernel)) (List.mem_of_getElem? (i := 517) (by decide +kernel)) (List.mem_of_getElem? (i := 56) (by decide +kernel)) (zd_dr dc_De_round 2 rfl)) ?_
  refine zd_ac (ok_iload (l := l) (B := B) (y := m_De_round) (pc := 5) (zd_dr dc_De_round 3 rfl)) ?_
  refine zd_ac (ok_calls (l := l) (B := B) (y := m_De_round) (pc := 7) hG cf_De_round_De_demandMode rfl (List.mem_of_getElem? (i := 590) (by decide +kernel)) (List.mem_of_getElem? (i := 591) (by decide +kernel)) (List.mem_of_getElem? (i := 56) (by decide +kernel)) (zd_dr dc_De_round 4 rfl)) ?_
  refine zd_ac (ok_iload_n (l := l) (B := B) (y := m_De_round) (pc := 10) (k := 3) rfl (zd_dr dc_De_round 5 rfl)) ?_
  refine zd_ac (ok_iconst (l := l) (B := B) (y := m_De_round) (pc := 11) (n := (1)) (zd_dr dc_De_round 6 rfl) rfl) ?_
  refine zd_ac (ok_calls (l := l) (B := B) (y := m_De_round) (pc := 12) hG cf_De_round_De_demandPrecision rfl (List.mem_of_getElem? (i := 671) (by decide +kernel)) (List.mem_of_getElem? (i := 672) (by decide +kernel)) (List.mem_of_getElem? (i := 56) (by decide +kernel)) (zd_dr dc_De_round 7 rfl)) ?_
  refine zd_ac (ok_aload_n (l := l) (B := B) (y := m_De_round) (pc := 15) (k := 0) rfl (zd_dr dc_De_round 8 rfl)) ?_
  refine zd_ac (ok_getf (l := l) (B := B) (y := m_De_round) (pc := 16) hG (C := zR0) (T := zT0) (N := 8) (ci := 0) (k := 0) rfl zl0 (by decide) (List.mem_of_getElem? (i := 234) (by decide +kernel)) (zd_dr dc_De_round 9 rfl)) ?_
  refine zd_ac (ok_iload_n (l := l) (B := B) (y := m_De_round) (pc := 19) (k := 1) rfl (zd_dr dc_De_round 10 rfl)) ?_
  refine zd_ac (ok_aaload (l := l) (B := B) (y := m_De_round) (pc := 20) hG (zd_dr dc_De_round 11 rfl)) ?_
  refine zd_ac (ok_astore (l := l) (B := B) (y := m_De_round) (pc := 21) (zd_dr dc_De_round 12 rfl) (by decide)) ?_
  refine zd_ac (ok_aload_n (l := l) (B := B) (y := m_De_round) (pc := 23) (k := 0) rfl (zd_dr dc_De_round 13 rfl)) ?_
  refine zd_ac (ok_getf (l := l) (B := B) (y := m_De_round) (pc := 24) hG (C := zR0) (T := zT0) (N := 8) (ci := 0) (k := 5) rfl zl0 (by decide) (List.mem_of_getElem? (i := 239) (by decide +kernel)) (zd_dr dc_De_round 14 rfl)) ?_
  refine zd_ac (ok_aload (l := l) (B := B) (y := m_De_round) (pc := 27) (zd_dr dc_De_round 15 rfl)) ?_
  refine zd_ac (ok_callv (l := l) (B := B) (y := m_De_round) (pc := 29) hG (ci := 6) rfl cf_De_round_Ru_take rfl (List.mem_of_getElem? (i := 526) (by decide +kernel)) (List.mem_of_getElem? (i := 527) (by decide +kernel)) (List.mem_of_getElem? (i := 528) (by decide +kernel)) (zd_dr dc_De_round 16 rfl)) ?_
  refine zd_ac (ok_aload_n (l := l) (B := B) (y := m_De_round) (pc := 32) (k := 0) rfl (zd_dr dc_De_round 17 rfl)) ?_
  refine zd_ac (ok_getf (l := l) (B := B) (y := m_De_round) (pc := 33) hG (C := zR0) (T := zT0) (N := 8) (ci := 0) (k := 5) rfl zl0 (by decide) (List.mem_of_getElem? (i := 239) (by decide +kernel)) (zd_dr dc_De_round 18 rfl)) ?_
  refine zd_ac (ok_iload_n (l := l) (B := B) (y := m_De_round) (pc := 36) (k := 3) rfl (zd_dr dc_De_round 19 rfl)) ?_
  refine zd_ac (ok_aload (l := l) (B := B) (y := m_De_round) (pc := 37) (zd_dr dc_De_round 20 rfl)) ?_
  refine zd_ac (ok_getf (l := l) (B := B) (y := m_De_round) (pc := 39) hG (C := zR1) (T := zT1) (N := 3) (ci := 1) (k := 2) rfl zl1 (by decide) (List.mem_of_getElem? (i := 118) (by decide +kernel)) (zd_dr dc_De_round 21 rfl)) ?_
  refine zd_ac (ok_iload (l := l) (B := B) (y := m_De_round) (pc := 42) (zd_dr dc_De_round 22 rfl)) ?_
  refine zd_ac (ok_callv (l := l) (B := B) (y := m_De_round) (pc := 44) hG (ci := 6) rfl cf_De_round_Ru_fitPrecision rfl (List.mem_of_getElem? (i := 675) (by decide +kernel)) (List.mem_of_getElem? (i := 676) (by decide +kernel)) (List.mem_of_getElem? (i := 677) (by decide +kernel)) (zd_dr dc_De_round 23 rfl)) ?_
  refine zd_ac (ok_aload_n (l := l) (B := B) (y := m_De_round) (pc := 47) (k := 0) rfl (zd_dr dc_De_round 24 rfl)) ?_
  refine zd_ac (ok_iload_n (l := l) (B := B) (y := m_De_round) (pc := 48) (k := 2) rfl (zd_dr dc_De_round 25 rfl)) ?_
  refine zd_ac (ok_callv (l := l) (B := B) (y := m_De_round) (pc := 49) hG (ci := 0) rfl cf_De_round_De_keep rfl (List.mem_of_getElem? (i := 466) (by decide +kernel)) (List.mem_of_getElem? (i := 468) (by decide +kernel)) (List.mem_of_getElem? (i := 4) (by decide +kernel)) (zd_dr dc_De_round 26 rfl)) ?_
  refine zd_ac (ok_vret (l := l) (B := B) (y := m_De_round) (pc := 52) rfl (zd_dr dc_De_round 27 rfl)) ?_
  exact zd_an
def dl_De_strip : List (Nat × Instr × Nat) := [(0, .iload_n 1, 1), (1, .iload_n 2, 1), (2, .invokestatic 186, 3), (5, .aload_n 0, 1), (6, .getfield 49, 3), (9, .aload_n 0, 1), (10, .getfield 11, 3), (13, .iload_n 1, 1), (14, .aaload, 1), (15, .invokevirtual 150, 3), (18, .aload_n 0, 1), (19, .getfield 49, 3), (22, .getfield 95, 3), (25, .invokevirtual 201, 3), (28, .ifCond .eq (14), 3), (31, .aload_n 0, 1), (32, .getfield 49, 3), (35, .iconst (0), 1), (36, .putfield 174, 3), (39, .goto (28), 3), (42, .aload_n 0, 1), (43, .getfield 49, 3), (46, .aload_n 0, 1), (47, .getfield 49, 3), (50, .getfield 174, 3), (53, .aload_n 0, 1), (54, .getfield 49, 3), (57, .getfield 95, 3), (60, .invokevirtual 220, 3), (63, .isub, 1), (64, .invokevirtual 210, 3), (67, .aload_n 0, 1), (68, .iload_n 2, 1), (69, .invokevirtual 109, 3), (72, .return_, 1)]
theorem dc_De_strip : ∀ q ∈ dl_De_strip, decode (zd_yb m_De_strip) q.1 = .ok q.2 := by decide +kernel
def cd_De_strip (l : Launch) (B : zd_B) : List (Nat × zd_S) := [(0, oc_iload 1 1), (1, oc_iload 2 2), (2, oc_calls l B m_De_demandRegisters2 2 5), (5, oc_aload 0 6), (6, oc_getf B 0 5 9), (9, oc_aload 0 10), (10, oc_getf B 0 0 13), (13, oc_iload 1 14), (14, oc_aaload B 15), (15, oc_callv l B 6 m_Ru_take 1 18), (18, oc_aload 0 19), (19, oc_getf B 0 5 22), (22, oc_getf B 6 0 25), (25, oc_callv l B 4 m_Na_isZero 0 28), (28, oc_if_eq 42 31), (31, oc_aload 0 32), (32, oc_getf B 0 5 35), (35, oc_ci (0) 36), (36, oc_putf B (zy6 2) 6 2 39), (39, oc_goto 67), (42, oc_aload 0 43), (43, oc_getf B 0 5 46), (46, oc_aload 0 47), (47, oc_getf B 0 5 50), (50, oc_getf B 6 2 53), (53, oc_aload 0 54), (54, oc_getf B 0 5 57), (57, oc_getf B 6 0 60), (60, oc_callv l B 4 m_Na_trailingZeros 0 63), (63, oc_isub 64), (64, oc_callv l B 6 m_Ru_cutTo 1 67), (67, oc_aload 0 68), (68, oc_iload 2 69), (69, oc_callv l B 0 m_De_keep 1 72), (72, oc_vret)]
set_option maxRecDepth 20000 in
theorem ok_De_strip {l : Launch} {B : zd_B} (hG : zd_G B) (hl : l.stackTraces = false) : ∀ q ∈ cd_De_strip l B, zd_ok l B m_De_strip q.1 q.2 := by
  unfold cd_De_strip
  refine zd_ac (ok_iload_n (l := l) (B := B) (y := m_De_strip) (pc := 0) (k := 1) rfl (zd_dr dc_De_strip 0 rfl)) ?_
  refine zd_ac (ok_iload_n (l := l) (B := B) (y := m_De_strip) (pc := 1) (k := 2) rfl (zd_dr dc_De_strip 1 rfl)) ?_
  refine zd_ac (ok_calls (l := l) (B := B) (y := m_De_strip) (pc := 2) hG cf_De_strip_De_demandRegisters2 rfl (List.mem_of_getElem? (i := 516) (by decide +kernel)) (List.mem_of_getElem? (i := 517) (by decide +kernel)) (List.mem_of_getElem? (i := 56) (by decide +kernel)) (zd_dr dc_De_strip 2 rfl)) ?_
  refine zd_ac (ok_aload_n (l := l) (B := B) (y := m_De_strip) (pc := 5) (k := 0) rfl (zd_dr dc_De_strip 3 rfl)) ?_
  refine zd_ac (ok_getf (l := l) (B := B) (y := m_De_strip) (pc := 6) hG (C := zR0) (T := zT0) (N := 8) (ci := 0) (k := 5) rfl zl0 (by decide) (List.mem_of_getElem? (i := 239) (by decide +kernel)) (zd_dr dc_De_strip 4 rfl)) ?_
  refine zd_ac (ok_aload_n (l := l) (B := B) (y := m_De_strip) (pc := 9) (k := 0) rfl (zd_dr dc_De_strip 5 rfl)) ?_
  refine zd_ac (ok_getf (l := l) (B := B) (y := m_De_strip) (pc := 10) hG (C := zR0) (T := zT0) (N := 8) (ci := 0) (k := 0) rfl zl0 (by decide) (List.mem_of_getElem? (i := 234) (by decide +kernel)) (zd_dr dc_De_strip 6 rfl)) ?_
  refine zd_ac (ok_iload_n (l := l) (B := B) (y := m_De_strip) (pc := 13) (k := 1) rfl (zd_dr dc_De_strip 7 rfl)) ?_
  refine zd_ac (ok_aaload (l := l) (B := B) (y := m_De_strip) (pc := 14) hG (zd_dr dc_De_strip 8 rfl)) ?_
  refine zd_ac (ok_callv (l := l) (B := B) (y := m_De_strip) (pc := 15) hG (ci := 6) rfl cf_De_strip_Ru_take rfl (List.mem_of_getElem? (i := 526) (by decide +kernel)) (List.mem_of_getElem? (i := 527) (by decide +kernel)) (List.mem_of_getElem? (i := 528) (by decide +kernel)) (zd_dr dc_De_strip 9 rfl)) ?_
  refine zd_ac (ok_aload_n (l := l) (B := B) (y := m_De_strip) (pc := 18) (k := 0) rfl (zd_dr dc_De_strip 10 rfl)) ?_
  refine zd_ac (ok_getf (l := l) (B := B) (y := m_De_strip) (pc := 19) hG (C := zR0) (T := zT0) (N := 8) (ci := 0) (k := 5) rfl zl0 (by decide) (List.mem_of_getElem? (i := 239) (by decide +kernel)) (zd_dr dc_De_strip 11 rfl)) ?_
  refine zd_ac (ok_getf (l := l) (B := B) (y := m_De_strip) (pc := 22) hG (C := zR6) (T := zT6) (N := 4) (ci := 6) (k := 0) rfl zl6 (by decide) (List.mem_of_getElem? (i := 214) (by decide +kernel)) (zd_dr dc_De_strip 12 rfl)) ?_
  refine zd_ac (ok_callv (l := l) (B := B) (y := m_De_strip) (pc := 25) hG (ci := 4) rfl cf_De_strip_Na_isZero rfl (List.mem_of_getElem? (i := 601) (by decide +kernel)) (List.mem_of_getElem? (i := 490) (by decide +kernel)) (List.mem_of_getElem? (i := 491) (by decide +kernel)) (zd_dr dc_De_strip 13 rfl)) ?_
  refine zd_ac (ok_if_eq (l := l) (B := B) (y := m_De_strip) (pc := 28) (zd_dr dc_De_strip 14 rfl) (by decide)) ?_
  refine zd_ac (ok_aload_n (l := l) (B := B) (y := m_De_strip) (pc := 31) (k := 0) rfl (zd_dr dc_De_strip 15 rfl)) ?_
  refine zd_ac (ok_getf (l := l) (B := B) (y := m_De_strip) (pc := 32) hG (C := zR0) (T := zT0) (N := 8) (ci := 0) (k := 5) rfl zl0 (by decide) (List.mem_of_getElem? (i := 239) (by decide +kernel)) (zd_dr dc_De_strip 16 rfl)) ?_
  refine zd_ac (ok_iconst (l := l) (B := B) (y := m_De_strip) (pc := 35) (n := (0)) (zd_dr dc_De_strip 17 rfl) rfl) ?_
  refine zd_ac (ok_putf (l := l) (B := B) (y := m_De_strip) (pc := 36) hG (C := zR6) (T := zT6) (N := 4) (ci := 6) (k := 2) rfl zl6 zt6 (by decide) (List.mem_of_getElem? (i := 220) (by decide +kernel)) rfl (zd_dr dc_De_strip 18 rfl)) ?_
  refine zd_ac (ok_goto (l := l) (B := B) (y := m_De_strip) (pc := 39) (zd_dr dc_De_strip 19 rfl) (by decide)) ?_
  refine zd_ac (ok_aload_n (l := l) (B := B) (y := m_De_strip) (pc := 42) (k := 0) rfl (zd_dr dc_De_strip 20 rfl)) ?_
  refine zd_ac (ok_getf (l := l) (B := B) (y := m_De_strip) (pc := 43) hG (C := zR0) (T := zT0) (N := 8) (ci := 0) (k := 5) rfl zl0 (by decide) (List.mem_of_getElem? (i := 239) (by decide +kernel)) (zd_dr dc_De_strip 21 rfl)) ?_
  refine zd_ac (ok_aload_n (l := l) (B := B) (y := m_De_strip) (pc := 46) (k := 0) rfl (zd_dr dc_De_strip 22 rfl)) ?_
  refine zd_ac (ok_getf (l := l) (B := B) (y := m_De_strip) (pc := 47) hG (C := zR0) (T := zT0) (N := 8) (ci := 0) (k := 5) rfl zl0 (by decide) (List.mem_of_getElem? (i := 239) (by decide +kernel)) (zd_dr dc_De_strip 23 rfl)) ?_
  refine zd_ac (ok_getf (l := l) (B := B) (y := m_De_strip) (pc := 50) hG (C := zR6) (T := zT6) (N := 4) (ci := 6) (k := 2) rfl zl6 (by decide) (List.mem_of_getElem? (i := 220) (by decide +kernel)) (zd_dr dc_De_strip 24 rfl)) ?_
  refine zd_ac (ok_aload_n (l := l) (B := B) (y := m_De_strip) (pc := 53) (k := 0) rfl (zd_dr dc_De_strip 25 rfl)) ?_
  refine zd_ac (ok_getf (l := l) (B := B) (y := m_De_strip) (pc := 54) hG (C := zR0) (T := zT0) (N := 8) (ci := 0) (k := 5) rfl zl0 (by decide) (List.mem_of_getElem? (i := 239) (by decide +kernel)) (zd_dr dc_De_strip 26 rfl)) ?_
  refine zd_ac (ok_getf (l := l) (B := B) (y := m_De_strip) (pc := 57) hG (C := zR6) (T := zT6) (N := 4) (ci := 6) (k := 0) rfl zl6 (by decide) (List.mem_of_getElem? (i := 214) (by decide +kernel)) (zd_dr dc_De_strip 27 rfl)) ?_
  refine zd_ac (ok_callv (l := l) (B := B) (y := m_De_strip) (pc := 60) hG (ci := 4) rfl cf_De_strip_Na_trailingZeros rfl (List.mem_of_getElem? (i := 765) (by decide +kernel)) (List.mem_of_getElem? (i := 684) (by decide +kernel)) (List.mem_of_getElem? (i := 685) (by decide +kernel)) (zd_dr dc_De_strip 28 rfl)) ?_
  refine zd_ac (ok_isub (l := l) (B := B) (y := m_De_strip) (pc := 63) (zd_dr dc_De_strip 29 rfl)) ?_
  refine zd_ac (ok_callv (l := l) (B := B) (y := m_De_strip) (pc := 64) hG (ci := 6) rfl cf_De_strip_Ru_cutTo rfl (List.mem_of_getElem? (i := 532) (by decide +kernel)) (List.mem_of_getElem? (i := 533) (by decide +kernel)) (List.mem_of_getElem? (i := 534) (by decide +kernel)) (zd_dr dc_De_strip 30 rfl)) ?_
  refine zd_ac (ok_aload_n (l := l) (B := B) (y := m_De_strip) (pc := 67) (k := 0) rfl (zd_dr dc_De_strip 31 rfl)) ?_
  refine zd_ac (ok_iload_n (l := l) (B := B) (y := m_De_strip) (pc := 68) (k := 2) rfl (zd_dr dc_De_strip 32 rfl)) ?_
  refine zd_ac (ok_callv (l := l) (B := B) (y := m_De_strip) (pc := 69) hG (ci := 0) rfl cf_De_strip_De_keep rfl (List.mem_of_getElem? (i := 466) (by decide +kernel)) (List.mem_of_getElem? (i := 468) (by decide +kernel)) (List.mem_of_getElem? (i := 4) (by decide +kernel)) (zd_dr dc_De_strip 33 rfl)) ?_
  refine zd_ac (ok_vret (l := l) (B := B) (y := m_De_strip) (pc := 72) rfl (zd_dr dc_De_strip 34 rfl)) ?_
  exact zd_an
def dl_De_shift : List (Nat × Instr × Nat) := [(0, .iload_n 1, 1), (1, .iload_n 2, 1), (2, .invokestatic 186, 3), (5, .aload_n 0, 1), (6, .getfield 11, 3), (9, .iload_n 1, 1), (10, .aaload, 1), (11, .getfield 136, 3), (14, .i2l, 1), (15, .iload_n 3, 1), (16, .i2l, 1), (17, .lsub, 1), (18, .lstore 4, 2), (20, .lload 4, 2), (22, .invokestatic 91, 3), (25, .aload_n 0, 1), (26, .getfield 49, 3), (29, .aload_n 0, 1), (30, .getfield 11, 3), (33, .iload_n 1, 1), (34, .aaload, 1), (35, .invokevirtual 150, 3), (38, .aload_n 0, 1), (39, .getfield 49, 3), (42, .lload 4, 2), (44, .l2i, 1), (45, .putfield 174, 3), (48, .aload_n 0, 1), (49, .iload_n 2, 1), (50, .invokevirtual 109, 3), (53, .return_, 1)]
theorem dc_De_shift : ∀ q ∈ dl_De_shift, decode (zd_yb m_De_shift) q.1 = .ok q.2 := by decide +kernel
def cd_De_shift (l : Launch) (B : zd_B) : List (Nat × zd_S) := [(0, oc_iload 1 1), (1, oc_iload 2 2), (2, oc_calls l B m_De_demandRegisters2 2 5), (5, oc_aload 0 6), (6, oc_getf B 0 0 9), (9, oc_iload 1 10), (10, oc_aaload B 11), (11, oc_getf B 1 2 14), (14, oc_i2l 15), (15, oc_iload 3 16), (16, oc_i2l 17), (17, oc_lsub 18), (18, oc_lstore 4 20), (20, oc_lload 4 22), (22, oc_calls l B m_De_demandScale 1 25), (25, oc_aload 0 26), (26, oc_getf B 0 5 29), (29, oc_aload 0 30), (30, oc_getf B 0 0 33), (33, oc_iload 1 34), (34, oc_aaload B 35), (35, oc_callv l B 6 m_Ru_take 1 38), (38, oc_aload 0 39), (39, oc_getf B 0 5 42), (42, oc_lload 4 44), (44, oc_l2i 45), (45, oc_putf B (zy6 2) 6 2 48), (48, oc_aload 0 49), (49, oc_iload 2 50), (50, oc_callv l B 0 m_De_keep 1 53), (53, oc_vret)]
set_option maxRecDepth 20000 in
theorem ok_De_shift {l : Launch} {B : zd_B} (hG : zd_G B) (hl : l.stackTraces = false) : ∀ q ∈ cd_De_shift l B, zd_ok l B m_De_shift q.1 q.2 := by
  unfold cd_De_shift
  refine zd_ac (ok_iload_n (l := l) (B := B) (y := m_De_shift) (pc := 0) (k := 1) rfl (zd_dr dc_De_shift 0 rfl)) ?_
  refine zd_ac (ok_iload_n (l := l) (B := B) (y := m_De_shift) (pc := 1) (k := 2) rfl (zd_dr dc_De_shift 1 rfl)) ?_
  refine zd_ac (ok_calls (l := l) (B := B) (y := m_De_shift) (pc := 2) hG cf_De_shift_De_demandRegisters2 rfl (List.mem_of_getElem? (i := 516) (by decide +kernel)) (List.mem_of_getElem? (i := 517) (by decide +kernel)) (List.mem_of_getElem? (i := 56) (by decide +kernel)) (zd_dr dc_De_shift 2 rfl)) ?_
  refine zd_ac (ok_aload_n (l := l) (B := B) (y := m_De_shift) (pc := 5) (k := 0) rfl (zd_dr dc_De_shift 3 rfl)) ?_
  refine zd_ac (ok_getf (l := l) (B := B) (y := m_De_shift) (pc := 6) hG (C := zR0) (T := zT0) (N := 8) (ci := 0) (k := 0) rfl zl0 (by decide) (List.mem_of_getElem? (i := 234) (by decide +kernel)) (zd_dr dc_De_shift 4 rfl)) ?_
  refine zd_ac (ok_iload_n (l := l) (B := B) (y := m_De_shift) (pc := 9) (k := 1) rfl (zd_dr dc_De_shift 5 rfl)) ?_
  refine zd_ac (ok_aaload (l := l) (B := B) (y := m_De_shift) (pc := 10) hG (zd_dr dc_De_shift 6 rfl)) ?_
  refine zd_ac (ok_getf (l := l) (B := B) (y := m_De_shift) (pc := 11) hG (C := zR1) (T := zT1) (N := 3) (ci := 1) (k := 2) rfl zl1 (by decide) (List.mem_of_getElem? (i := 118) (by decide +kernel)) (zd_dr dc_De_shift 7 rfl)) ?_
  refine zd_ac (ok_i2l (l := l) (B := B) (y := m_De_shift) (pc := 14) (zd_dr dc_De_shift 8 rfl)) ?_
  refine zd_ac (ok_iload_n (l := l) (B := B) (y := m_De_shift) (pc := 15) (k := 3) rfl (zd_dr dc_De_shift 9 rfl)) ?_
  refine zd_ac (ok_i2l (l := l) (B := B) (y := m_De_shift) (pc := 16) (zd_dr dc_De_shift 10 rfl)) ?_
  refine zd_ac (ok_lsub (l := l) (B := B) (y := m_De_shift) (pc := 17) (zd_dr dc_De_shift 11 rfl)) ?_
  refine zd_ac (ok_lstore (l := l) (B := B) (y := m_De_shift) (pc := 18) (zd_dr dc_De_shift 12 rfl) (by decide)) ?_
  refine zd_ac (ok_lload (l := l) (B := B) (y := m_De_shift) (pc := 20) (zd_dr dc_De_shift 13 rfl)) ?_
  refine zd_ac (ok_calls (l := l) (B := B) (y := m_De_shift) (pc := 22) hG cf_De_shift_De_demandScale rfl (List.mem_of_getElem? (i := 409) (by decide +kernel)) (List.mem_of_getElem? (i := 410) (by decide +kernel)) (List.mem_of_getElem? (i := 56) (by decide +kernel)) (zd_dr dc_De_shift 14 rfl)) ?_
  refine zd_ac (ok_aload_n (l := l) (B := B) (y := m_De_shift) (pc := 25) (k := 0) rfl (zd_dr dc_De_shift 15 rfl)) ?_
  refine zd_ac (ok_getf (l := l) (B := B) (y := m_De_shift) (pc := 26) hG (C := zR0) (T := zT0) (N := 8) (ci := 0) (k := 5) rfl zl0 (by decide) (List.mem_of_getElem? (i := 239) (by decide +kernel)) (zd_dr dc_De_shift 16 rfl)) ?_
  refine zd_ac (ok_aload_n (l := l) (B := B) (y := m_De_shift) (pc := 29) (k := 0) rfl (zd_dr dc_De_shift 17 rfl)) ?_
  refine zd_ac (ok_getf (l := l) (B := B) (y := m_De_shift) (pc := 30) hG (C := zR0) (T := zT0) (N := 8) (ci := 0) (k := 0) rfl zl0 (by decide) (List.mem_of_getElem? (i := 234) (by decide +kernel)) (zd_dr dc_De_shift 18 rfl)) ?_
  refine zd_ac (ok_iload_n (l := l) (B := B) (y := m_De_shift) (pc := 33) (k := 1) rfl (zd_dr dc_De_shift 19 rfl)) ?_
  refine zd_ac (ok_aaload (l := l) (B := B) (y := m_De_shift) (pc := 34) hG (zd_dr dc_De_shift 20 rfl)) ?_
  refine zd_ac (ok_callv (l := l) (B := B) (y := m_De_shift) (pc := 35) hG (ci := 6) rfl cf_De_shift_Ru_take rfl (List.mem_of_getElem? (i := 526) (by decide +kernel)) (List.mem_of_getElem? (i := 527) (by decide +kernel)) (List.mem_of_getElem? (i := 528) (by decide +kernel)) (zd_dr dc_De_shift 21 rfl)) ?_
  refine zd_ac (ok_aload_n (l := l) (B := B) (y := m_De_shift) (pc := 38) (k := 0) rfl (zd_dr dc_De_shift 22 rfl)) ?_
  refine zd_ac (ok_getf (l := l) (B := B) (y := m_De_shift) (pc := 39) hG (C := zR0) (T := zT0) (N := 8) (ci := 0) (k := 5) rfl zl0 (by decide) (List.mem_of_getElem? (i := 239) (by decide +kernel)) (zd_dr dc_De_shift 23 rfl)) ?_
  refine zd_ac (ok_lload (l := l) (B := B) (y := m_De_shift) (pc := 42) (zd_dr dc_De_shift 24 rfl)) ?_
  refine zd_ac (ok_l2i (l := l) (B := B) (y := m_De_shift) (pc := 44) (zd_dr dc_De_shift 25 rfl)) ?_
  refine zd_ac (ok_putf (l := l) (B := B) (y := m_De_shift) (pc := 45) hG (C := zR6) (T := zT6) (N := 4) (ci := 6) (k := 2) rfl zl6 zt6 (by decide) (List.mem_of_getElem? (i := 220) (by decide +kernel)) rfl (zd_dr dc_De_shift 26 rfl)) ?_
  refine zd_ac (ok_aload_n (l := l) (B := B) (y := m_De_shift) (pc := 48) (k := 0) rfl (zd_dr dc_De_shift 27 rfl)) ?_
  refine zd_ac (ok_iload_n (l := l) (B := B) (y := m_De_shift) (pc := 49) (k := 2) rfl (zd_dr dc_De_shift 28 rfl)) ?_
  refine zd_ac (ok_callv (l := l) (B := B) (y := m_De_shift) (pc := 50) hG (ci := 0) rfl cf_De_shift_De_keep rfl (List.mem_of_getElem? (i := 466) (by decide +kernel)) (List.mem_of_getElem? (i := 468) (by decide +kernel)) (List.mem_of_getElem? (i := 4) (by decide +kernel)) (zd_dr dc_De_shift 29 rfl)) ?_
  refine zd_ac (ok_vret (l := l) (B := B) (y := m_De_shift) (pc := 53) rfl (zd_dr dc_De_shift 30 rfl)) ?_
  exact zd_an
def dl_De_negate : List (Nat × Instr × Nat) := [(0, .iload_n 1, 1), (1, .iload_n 2, 1), (2, .invokestatic 186, 3), (5, .aload_n 0, 1), (6, .getfield 49, 3), (9, .aload_n 0, 1), (10, .getfield 11, 3), (13, .iload_n 1, 1), (14, .aaload, 1), (15, .invokevirtual 150, 3), (18, .aload_n 0, 1), (19, .getfield 49, 3), (22, .aload_n 0, 1), (23, .getfield 49, 3), (26, .getfield 223, 3), (29, .ifCond .ne (7), 3), (32, .iconst (1), 1), (33, .goto (4), 3), (36, .iconst (0), 1), (37, .putfield 223, 3), (40, .aload_n 0, 1), (41, .iload_n 2, 1), (42, .invokevirtual 109, 3), (45, .return_, 1)]
theorem dc_De_negate : ∀ q ∈ dl_De_negate, decode (zd_yb m_De_negate) q.1 = .ok q.2 := by decide +kernel
def cd_De_negate (l : Launch) (B : zd_B) : List (Nat × zd_S) := [(0, oc_iload 1 1), (1, oc_iload 2 2), (2, oc_calls l B m_De_demandRegisters2 2 5), (5, oc_aload 0 6), (6, oc_getf B 0 5 9), (9, oc_aload 0 10), (10, oc_getf B 0 0 13), (13, oc_iload 1 14), (14, oc_aaload B 15), (15, oc_callv l B 6 m_Ru_take 1 18), (18, oc_aload 0 19), (19, oc_getf B 0 5 22), (22, oc_aload 0 23), (23, oc_getf B 0 5 26), (26, oc_getf B 6 1 29), (29, oc_if_ne 36 32), (32, oc_ci (1) 33), (33, oc_goto 37), (36, oc_ci (0) 37), (37, oc_putf B (zy6 1) 6 1 40), (40, oc_aload 0 41), (41, oc_iload 2 42), (42, oc_callv l B 0 m_De_keep 1 45), (45, oc_vret)]
set_option maxRecDepth 20000 in
theorem ok_De_negate {l : Launch} {B : zd_B} (hG : zd_G B) (hl : l.stackTraces = false) : ∀ q ∈ cd_De_negate l B, zd_ok l B m_De_negate q.1 q.2 := by
  unfold cd_De_negate
  refine zd_ac (ok_iload_n (l := l) (B := B) (y := m_De_negate) (pc := 0) (k := 1) rfl (zd_dr dc_De_negate 0 rfl)) ?_
  refine zd_ac (ok_iload_n (l := l) (B := B) (y := m_De_negate) (pc := 1) (k := 2) rfl (zd_dr dc_De_negate 1 rfl)) ?_
  refine zd_ac (ok_calls (l := l) (B := B) (y := m_De_negate) (pc := 2) hG cf_De_negate_De_demandRegisters2 rfl (List.mem_of_getElem? (i := 516) (by decide +kernel)) (List.mem_of_getElem? (i := 517) (by decide +kernel)) (List.mem_of_getElem? (i := 56) (by decide +kernel)) (zd_dr dc_De_negate 2 rfl)) ?_
  refine zd_ac (ok_aload_n (l := l) (B := B) (y := m_De_negate) (pc := 5) (k := 0) rfl (zd_dr dc_De_negate 3 rfl)) ?_
  refine zd_ac (ok_getf (l := l) (B := B) (y := m_De_negate) (pc := 6) hG (C := zR0) (T := zT0) (N := 8) (ci := 0) (k := 5) rfl zl0 (by decide) (List.mem_of_getElem? (i := 239) (by decide +kernel)) (zd_dr dc_De_negate 4 rfl)) ?_
  refine zd_ac (ok_aload_n (l := l) (B := B) (y := m_De_negate) (pc := 9) (k := 0) rfl (zd_dr dc_De_negate 5 rfl)) ?_
  refine zd_ac (ok_getf (l := l) (B := B) (y := m_De_negate) (pc := 10) hG (C := zR0) (T := zT0) (N := 8) (ci := 0) (k := 0) rfl zl0 (by decide) (List.mem_of_getElem? (i := 234) (by decide +kernel)) (zd_dr dc_De_negate 6 rfl)) ?_
  refine zd_ac (ok_iload_n (l := l) (B := B) (y := m_De_negate) (pc := 13) (k := 1) rfl (zd_dr dc_De_negate 7 rfl)) ?_
  refine zd_ac (ok_aaload (l := l) (B := B) (y := m_De_negate) (pc := 14) hG (zd_dr dc_De_negate 8 rfl)) ?_
  refine zd_ac (ok_callv (l := l) (B := B) (y := m_De_negate) (pc := 15) hG (ci := 6) rfl cf_De_negate_Ru_take rfl (List.mem_of_getElem? (i := 526) (by decide +kernel)) (List.mem_of_getElem? (i := 527) (by decide +kernel)) (List.mem_of_getElem? (i := 528) (by decide +kernel)) (zd_dr dc_De_negate 9 rfl)) ?_
  refine zd_ac (ok_aload_n (l := l) (B := B) (y := m_De_negate) (pc := 18) (k := 0) rfl (zd_dr dc_De_negate 10 rfl)) ?_
  refine zd_ac (ok_getf (l := l) (B := B) (y := m_De_negate) (pc := 19) hG (C := zR0) (T := zT0) (N := 8) (ci := 0) (k := 5) rfl zl0 (by decide) (List.mem_of_getElem? (i := 239) (by decide +kernel)) (zd_dr dc_De_negate 11 rfl)) ?_
  refine zd_ac (ok_aload_n (l := l) (B := B) (y := m_De_negate) (pc := 22) (k := 0) rfl (zd_dr dc_De_negate 12 rfl)) ?_
  refine zd_ac (ok_getf (l := l) (B := B) (y := m_De_negate) (pc := 23) hG (C := zR0) (T := zT0) (N := 8) (ci := 0) (k := 5) rfl zl0 (by decide) (List.mem_of_getElem? (i := 239) (by decide +kernel)) (zd_dr dc_De_negate 13 rfl)) ?_
  refine zd_ac (ok_getf (l := l) (B := B) (y := m_De_negate) (pc := 26) hG (C := zR6) (T := zT6) (N := 4) (ci := 6) (k := 1) rfl zl6 (by decide) (List.mem_of_getElem? (i := 217) (by decide +kernel)) (zd_dr dc_De_negate 14 rfl)) ?_
  refine zd_ac (ok_if_ne (l := l) (B := B) (y := m_De_negate) (pc := 29) (zd_dr dc_De_negate 15 rfl) (by decide)) ?_
  refine zd_ac (ok_iconst (l := l) (B := B) (y := m_De_negate) (pc := 32) (n := (1)) (zd_dr dc_De_negate 16 rfl) rfl) ?_
  refine zd_ac (ok_goto (l := l) (B := B) (y := m_De_negate) (pc := 33) (zd_dr dc_De_negate 17 rfl) (by decide)) ?_
  refine zd_ac (ok_iconst (l := l) (B := B) (y := m_De_negate) (pc := 36) (n := (0)) (zd_dr dc_De_negate 18 rfl) rfl) ?_
  refine zd_ac (ok_putf (l := l) (B := B) (y := m_De_negate) (pc := 37) hG (C := zR6) (T := zT6) (N := 4) (ci := 6) (k := 1) rfl zl6 zt6 (by decide) (List.mem_of_getElem? (i := 217) (by decide +kernel)) rfl (zd_dr dc_De_negate 19 rfl)) ?_
  refine zd_ac (ok_aload_n (l := l) (B := B) (y := m_De_negate) (pc := 40) (k := 0) rfl (zd_dr dc_De_negate 20 rfl)) ?_
  refine zd_ac (ok_iload_n (l := l) (B := B) (y := m_De_negate) (pc := 41) (k := 2) rfl (zd_dr dc_De_negate 21 rfl)) ?_
  refine zd_ac (ok_callv (l := l) (B := B) (y := m_De_negate) (pc := 42) hG (ci := 0) rfl cf_De_negate_De_keep rfl (List.mem_of_getElem? (i := 466) (by decide +kernel)) (List.mem_of_getElem? (i := 468) (by decide +kernel)) (List.mem_of_getElem? (i := 4) (by decide +kernel)) (zd_dr dc_De_negate 22 rfl)) ?_
  refine zd_ac (ok_vret (l := l) (B := B) (y := m_De_negate) (pc := 45) rfl (zd_dr dc_De_negate 23 rfl)) ?_
  exact zd_an
def dl_De_compare : List (Nat × Instr × Nat) := [(0, .iload_n 1, 1), (1, .iload_n 2, 1), (2, .invokestatic 186, 3), (5, .aload_n 0, 1), (6, .getfield 11, 3), (9, .iload_n 1, 1), (10, .aaload, 1), (11, .astore_n 3, 1), (12, .aload_n 0, 1), (13, .getfield 11, 3), (16, .iload_n 2, 1), (17, .aaload, 1), (18, .astore 4, 2), (20, .aload_n 3, 1), (21, .invokevirtual 224, 3), (24, .aload 4, 2), (26, .invokevirtual 224, 3), (29, .if_icmp .ne (10), 3), (32, .aload_n 3, 1), (33, .invokevirtual 224, 3), (36, .ifCond .ne (16), 3), (39, .aload_n 3, 1), (40, .invokevirtual 224, 3), (43, .aload 4, 2), (45, .invokevirtual 224, 3), (48, .invokestatic 227, 3), (51, .ireturn, 1), (52, .aload_n 3, 1), (53, .invokevirtual 224, 3), (56, .aload_n 0, 1), (57, .aload_n 3, 1), (58, .aload 4, 2), (60, .invokevirtual 232, 3), (63, .imul, 1), (64, .ireturn, 1)]
theorem dc_De_compare : ∀ q ∈ dl_De_compare, decode (zd_yb m_De_compare) q.1 = .ok q.2 := by decide +kernel
def cd_De_compare (l : Launch) (B : zd_B) : List (Nat × zd_S) := [(0, oc_iload 1 1), (1, oc_iload 2 2), (2, oc_calls l B m_De_demandRegisters2 2 5), (5, oc_aload 0 6), (6, oc_getf B 0 0 9), (9, oc_iload 1 10), (10, oc_aaload B 11), (11, oc_astore 3 12), (12, oc_aload 0 13), (13, oc_getf B 0 0 16), (16, oc_iload 2 17), (17, oc_aaload B 18), (18, oc_astore 4 20), (20, oc_aload 3 21), (21, oc_callv l B 1 m_Dc_sign 0 24), (24, oc_aload 4 26), (26, oc_callv l B 1 m_Dc_sign 0 29), (29, oc_icmp_ne 39 32), (32, oc_aload 3 33), (33, oc_callv l B 1 m_Dc_sign 0 36), (36, oc_if_ne 52 39), (39, oc_aload 3 40), (40, oc_callv l B 1 m_Dc_sign 0 43), (43, oc_aload 4 45), (45, oc_callv l B 1 m_Dc_sign 0 48), (48, oc_calls l B m_In_compare 2 51), (51, oc_iret .int), (52, oc_aload 3 53), (53, oc_callv l B 1 m_Dc_sign 0 56), (56, oc_aload 0 57), (57, oc_aload 3 58), (58, oc_aload 4 60), (60, oc_callv l B 0 m_De_orderOfSizes 2 63), (63, oc_imul 64), (64, oc_iret .int)]
set_option maxRecDepth 20000 in
theorem ok_De_compare {l : Launch} {B : zd_B} (hG : zd_G B) (hl : l.stackTraces = false) : ∀ q ∈ cd_De_compare l B, zd_ok l B m_De_compare q.1 q.2 := by
  unfold cd_De_compare
  refine zd_ac (ok_iload_n (l := l) (B := B) (y := m_De_compare) (pc := 0) (k := 1) rfl (zd_dr dc_De_compare 0 rfl)) ?_
  refine zd_ac (ok_iload_n (l := l) (B := B) (y := m_De_compare) (pc := 1) (k := 2) rfl (zd_dr dc_De_compare 1 rfl)) ?_
  refine zd_ac (ok_calls (l := l) (B := B) (y := m_De_compare) (pc := 2) hG cf_De_compare_De_demandRegisters2 rfl (List.mem_of_getElem? (i := 516) (by decide +kernel)) (List.mem_of_getElem? (i := 517) (by decide +kernel)) (List.mem_of_getElem? (i := 56) (by decide +kernel)) (zd_dr dc_De_compare 2 rfl)) ?_
  refine zd_ac (ok_aload_n (l := l) (B := B) (y := m_De_compare) (pc := 5) (k := 0) rfl (zd_dr dc_De_compare 3 rfl)) ?_
  refine zd_ac (ok_getf (l := l) (B := B) (y := m_De_compare) (pc := 6) hG (C := zR0) (T := zT0) (N := 8) (ci := 0) (k := 0) rfl zl0 (by decide) (List.mem_of_getElem? (i := 234) (by decide +kernel)) (zd_dr dc_De_compare 4 rfl)) ?_
  refine zd_ac (ok_iload_n (l := l) (B := B) (y := m_De_compare) (pc := 9) (k := 1) rfl (zd_dr dc_De_compare 5 rfl)) ?_
  refine zd_ac (ok_aaload (l := l) (B := B) (y := m_De_compare) (pc := 10) hG (zd_dr dc_De_compare 6 rfl)) ?_
  refine zd_ac (ok_astore_n (l := l) (B := B) (y := m_De_compare) (pc := 11) (k := 3) rfl (zd_dr dc_De_compare 7 rfl) (by decide)) ?_
  refine zd_ac (ok_aload_n (l := l) (B := B) (y := m_De_compare) (pc := 12) (k := 0) rfl (zd_dr dc_De_compare 8 rfl)) ?_
  refine zd_ac (ok_getf (l := l) (B := B) (y := m_De_compare) (pc := 13) hG (C := zR0) (T := zT0) (N := 8) (ci := 0) (k := 0) rfl zl0 (by decide) (List.mem_of_getElem? (i := 234) (by decide +kernel)) (zd_dr dc_De_compare 9 rfl)) ?_
  refine zd_ac (ok_iload_n (l := l) (B := B) (y := m_De_compare) (pc := 16) (k := 2) rfl (zd_dr dc_De_compare 10 rfl)) ?_
  refine zd_ac (ok_aaload (l := l) (B := B) (y := m_De_compare) (pc := 17) hG (zd_dr dc_De_compare 11 rfl)) ?_
  refine zd_ac (ok_astore (l := l) (B := B) (y := m_De_compare) (pc := 18) (zd_dr dc_De_compare 12 rfl) (by decide)) ?_
  refine zd_ac (ok_aload_n (l := l) (B := B) (y := m_De_compare) (pc := 20) (k := 3) rfl (zd_dr dc_De_compare 13 rfl)) ?_
  refine zd_ac (ok_callv (l := l) (B := B) (y := m_De_compare) (pc := 21) hG (ci := 1) rfl cf_De_compare_Dc_sign rfl (List.mem_of_getElem? (i := 787) (by decide +kernel)) (List.mem_of_getElem? (i := 788) (by decide +kernel)) (List.mem_of_getElem? (i := 789) (by decide +kernel)) (zd_dr dc_De_compare 14 rfl)) ?_
  refine zd_ac (ok_aload (l := l) (B := B) (y := m_De_compare) (pc := 24) (zd_dr dc_De_compare 15 rfl)) ?_
  refine zd_ac (ok_callv (l := l) (B := B) (y := m_De_compare) (pc := 26) hG (ci := 1) rfl cf_De_compare_Dc_sign rfl (List.mem_of_getElem? (i := 787) (by decide +kernel)) (List.mem_of_getElem? (i := 788) (by decide +kernel)) (List.mem_of_getElem? (i := 789) (by decide +kernel)) (zd_dr dc_De_compare 16 rfl)) ?_
  refine zd_ac (ok_icmp_ne (l := l) (B := B) (y := m_De_compare) (pc := 29) (zd_dr dc_De_compare 17 rfl) (by decide)) ?_
  refine zd_ac (ok_aload_n (l := l) (B := B) (y := m_De_compare) (pc := 32) (k := 3) rfl (zd_dr dc_De_compare 18 rfl)) ?_
  refine zd_ac (ok_callv (l := l) (B := B) (y := m_De_compare) (pc := 33) hG (ci := 1) rfl cf_De_compare_Dc_sign rfl (List.mem_of_getElem? (i := 787) (by decide +kernel)) (List.mem_of_getElem? (i := 788) (by decide +kernel)) (List.mem_of_getElem? (i := 789) (by decide +kernel)) (zd_dr dc_De_compare 19 rfl)) ?_
  refine zd_ac (ok_if_ne (l := l) (B := B) (y := m_De_compare) (pc := 36) (zd_dr dc_De_compare 20 rfl) (by decide)) ?_
  refine zd_ac (ok_aload_n (l := l) (B := B) (y := m_De_compare) (pc := 39) (k := 3) rfl (zd_dr dc_De_compare 21 rfl)) ?_
  refine zd_ac (ok_callv (l := l) (B := B) (y := m_De_compare) (pc := 40) hG (ci := 1) rfl cf_De_compare_Dc_sign rfl (List.mem_of_getElem? (i := 787) (by decide +kernel)) (List.mem_of_getElem? (i := 788) (by decide +kernel)) (List.mem_of_getElem? (i := 789) (by decide +kernel)) (zd_dr dc_De_compare 22 rfl)) ?_
  refine zd_ac (ok_aload (l := l) (B := B) (y := m_De_compare) (pc := 43) (zd_dr dc_De_compare 23 rfl)) ?_
  refine zd_ac (ok_callv (l := l) (B := B) (y := m_De_compare) (pc := 45) hG (ci := 1) rfl cf_De_compare_Dc_sign rfl (List.mem_of_getElem? (i := 787) (by decide +kernel)) (List.mem_of_getElem? (i := 788) (by decide +kernel)) (List.mem_of_getElem? (i := 789) (by decide +kernel)) (zd_dr dc_De_compare 24 rfl)) ?_
  refine zd_ac (ok_calls (l := l) (B := B) (y := m_De_compare) (pc := 48) hG cf_De_compare_In_compare rfl (List.mem_of_getElem? (i := 791) (by decide +kernel)) (List.mem_of_getElem? (i := 566) (by decide +kernel)) (List.mem_of_getElem? (i := 73) (by decide +kernel)) (zd_dr dc_De_compare 25 rfl)) ?_
  refine zd_ac (ok_iret (l := l) (B := B) (y := m_De_compare) (pc := 51) rfl (zd_dr dc_De_compare 26 rfl)) ?_
  refine zd_ac (ok_aload_n (l := l) (B := B) (y := m_De_compare) (pc := 52) (k := 3) rfl (zd_dr dc_De_compare 27 rfl)) ?_
  refine zd_ac (ok_callv (l := l) (B := B) (y := m_De_compare) (pc := 53) hG (ci := 1) rfl cf_De_compare_Dc_sign rfl (List.mem_of_getElem? (i := 787) (by decide +kernel)) (List.mem_of_getElem? (i := 788) (by decide +kernel)) (List.mem_of_getElem? (i := 789) (by decide +kernel)) (zd_dr dc_De_compare 28 rfl)) ?_
  refine zd_ac (ok_aload_n (l := l) (B := B) (y := m_De_compare) (pc := 56) (k := 0) rfl (zd_dr dc_De_compare 29 rfl)) ?_
  refine zd_ac (ok_aload_n (l := l) (B := B) (y := m_De_compare) (pc := 57) (k := 3) rfl (zd_dr dc_De_compare 30 rfl)) ?_
  refine zd_ac (ok_aload (l := l) (B := B) (y := m_De_compare) (pc := 58) (zd_dr dc_De_compare 31 rfl)) ?_
  refine zd_ac (ok_callv (l := l) (B := B) (y := m_De_compare) (pc := 60) hG (ci := 0) rfl cf_De_compare_De_orderOfSizes rfl (List.mem_of_getElem? (i := 792) (by decide +kernel)) (List.mem_of_getElem? (i := 794) (by decide +kernel)) (List.mem_of_getElem? (i := 18) (by decide +kernel)) (zd_dr dc_De_compare 32 rfl)) ?_
  refine zd_ac (ok_imul (l := l) (B := B) (y := m_De_compare) (pc := 63) (zd_dr dc_De_compare 33 rfl)) ?_
  refine zd_ac (ok_iret (l := l) (B := B) (y := m_De_compare) (pc := 64) rfl (zd_dr dc_De_compare 34 rfl)) ?_
  exact zd_an
def dl_De_told : List (Nat × Instr × Nat) := [(0, .iload_n 1, 1), (1, .invokestatic 73, 3), (4, .aload_n 0, 1), (5, .getfield 11, 3), (8, .iload_n 1, 1), (9, .aaload, 1), (10, .astore_n 3, 1), (11, .aload_n 3, 1), (12, .getfield 131, 3), (15, .invokevirtual 164, 3), (18, .istore 4, 2), (20, .iload_n 2, 1), (21, .ifCond .lt (11), 3), (24, .iload_n 2, 1), (25, .iconst (3), 1), (26, .isub, 1), (27, .iload 4, 2), (29, .if_icmp .lt (13), 3), (32, .new 236, 3), (35, .dup, 1), (36, .ldc 238, 2), (38, .invokespecial 240, 3), (41, .athrow, 1), (42, .iload_n 2, 1), (43, .tableswitch (38) (0) (2) #[(25), (30), (35)], 25), (68, .aload_n 3, 1), (69, .invokevirtual 224, 3), (72, .ireturn, 1), (73, .aload_n 3, 1), (74, .getfield 136, 3), (77, .ireturn, 1), (78, .iload 4, 2), (80, .ireturn, 1), (81, .aload_n 3, 1), (82, .getfield 131, 3), (85, .iload 4, 2), (87, .iconst (1), 1), (88, .isub, 1), (89, .iload_n 2, 1), (90, .iconst (3), 1), (91, .isub, 1), (92, .isub, 1), (93, .invokevirtual 241, 3), (96, .ireturn, 1)]
theorem dc_De_told : ∀ q ∈ dl_De_told, decode (zd_yb m_De_told) q.1 = .ok q.2 := by decide +kernel
def cd_De_told (l : Launch) (B : zd_B) : List (Nat × zd_S) := [(0, oc_iload 1 1), (1, oc_calls l B m_De_demandRegister 1 4), (4, oc_aload 0 5), (5, oc_getf B 0 0 8), (8, oc_iload 1 9), (9, oc_aaload B 10), (10, oc_astore 3 11), (11, oc_aload 3 12), (12, oc_getf B 1 0 15), (15, oc_callv l B 4 m_Na_digits 0 18), (18, oc_istore 4 20), (20, oc_iload 2 21), (21, oc_if_lt 32 24), (24, oc_iload 2 25), (25, oc_ci (3) 26), (26, oc_isub 27), (27, oc_iload 4 29), (29, oc_icmp_lt 42 32), (32, oc_throw B 12), (42, oc_iload 2 43), (43, oc_sw [(0, 68), (1, 73), (2, 78)] 81), (68, oc_aload 3 69), (69, oc_callv l B 1 m_Dc_sign 0 72), (72, oc_iret .int), (73, oc_aload 3 74), (74, oc_getf B 1 2 77), (77, oc_iret .int), (78, oc_iload 4 80), (80, oc_iret .int), (81, oc_aload 3 82), (82, oc_getf B 1 0 85), (85, oc_iload 4 87), (87, oc_ci (1) 88), (88, oc_isub 89), (89, oc_iload 2 90), (90, oc_ci (3) 91), (91, oc_isub 92), (92, oc_isub 93), (93, oc_callv l B 4 m_Na_digitAt 1 96), (96, oc_iret .int)]
set_option maxRecDepth 20000 in
theorem ok_De_told {l : Launch} {B : zd_B} (hG : zd_G B) (hl : l.stackTraces = false) : ∀ q ∈ cd_De_told l B, zd_ok l B m_De_told q.1 q.2 := by
  unfold cd_De_told
  refine zd_ac (ok_iload_n (l := l) (B := B) (y := m_De_told) (pc := 0) (k := 1) rfl (zd_dr dc_De_told 0 rfl)) ?_
  refine zd_ac (ok_calls (l := l) (B := B) (y := m_De_told) (pc := 1) hG cf_De_told_De_demandRegister rfl (List.mem_of_getElem? (i := 297) (by decide +kernel)) (List.mem_of_getElem? (i := 298) (by decide +kernel)) (List.mem_of_getElem? (i := 56) (by decide +kernel)) (zd_dr dc_De_told 1 rfl)) ?_
  refine zd_ac (ok_aload_n (l := l) (B := B) (y := m_De_told) (pc := 4) (k := 0) rfl (zd_dr dc_De_told 2 rfl)) ?_
  refine zd_ac (ok_getf (l := l) (B := B) (y := m_De_told) (pc := 5) hG (C := zR0) (T := zT0) (N := 8) (ci := 0) (k := 0) rfl zl0 (by decide) (List.mem_of_getElem? (i := 234) (by decide +kernel)) (zd_dr dc_De_told 3 rfl)) ?_
  refine zd_ac (ok_iload_n (l := l) (B := B) (y := m_De_told) (pc := 8) (k := 1) rfl (zd_dr dc_De_told 4 rfl)) ?_
  refine zd_ac (ok_aaload (l := l) (B := B) (y := m_De_told) (pc := 9) hG (zd_dr dc_De_told 5 rfl)) ?_
  refine zd_ac (ok_astore_n (l := l) (B := B) (y := m_De_told) (pc := 10) (k := 3) rfl (zd_dr dc_De_told 6 rfl) (by decide)) ?_
  refine zd_ac (ok_aload_n (l := l) (B := B) (y := m_De_told) (pc := 11) (k := 3) rfl (zd_dr dc_De_told 7 rfl)) ?_
  refine zd_ac (ok_getf (l := l) (B := B) (y := m_De_told) (pc := 12) hG (C := zR1) (T := zT1) (N := 3) (ci := 1) (k := 0) rfl zl1 (by decide) (List.mem_of_getElem? (i := 110) (by decide +kernel)) (zd_dr dc_De_told 8 rfl)) ?_
  refine zd_ac (ok_callv (l := l) (B := B) (y := m_De_told) (pc := 15) hG (ci := 4) rfl cf_De_told_Na_digits rfl (List.mem_of_getElem? (i := 473) (by decide +kernel)) (List.mem_of_getElem? (i := 474) (by decide +kernel)) (List.mem_of_getElem? (i := 475) (by decide +kernel)) (zd_dr dc_De_told 9 rfl)) ?_
  refine zd_ac (ok_istore (l := l) (B := B) (y := m_De_told) (pc := 18) (zd_dr dc_De_told 10 rfl) (by decide)) ?_
  refine zd_ac (ok_iload_n (l := l) (B := B) (y := m_De_told) (pc := 20) (k := 2) rfl (zd_dr dc_De_told 11 rfl)) ?_
  refine zd_ac (ok_if_lt (l := l) (B := B) (y := m_De_told) (pc := 21) (zd_dr dc_De_told 12 rfl) (by decide)) ?_
  refine zd_ac (ok_iload_n (l := l) (B := B) (y := m_De_told) (pc := 24) (k := 2) rfl (zd_dr dc_De_told 13 rfl)) ?_
  refine zd_ac (ok_iconst (l := l) (B := B) (y := m_De_told) (pc := 25) (n := (3)) (zd_dr dc_De_told 14 rfl) rfl) ?_
  refine zd_ac (ok_isub (l := l) (B := B) (y := m_De_told) (pc := 26) (zd_dr dc_De_told 15 rfl)) ?_
  refine zd_ac (ok_iload (l := l) (B := B) (y := m_De_told) (pc := 27) (zd_dr dc_De_told 16 rfl)) ?_
  refine zd_ac (ok_icmp_lt (l := l) (B := B) (y := m_De_told) (pc := 29) (zd_dr dc_De_told 17 rfl) (by decide)) ?_
  refine zd_ac (ok_throw (l := l) (B := B) (y := m_De_told) (pc := 32) hG hl zE12 zx_De_236_238_240 rfl (by decide) (by decide) (zd_dr dc_De_told 18 rfl) (zd_dr dc_De_told 19 rfl) (zd_dr dc_De_told 20 rfl) (zd_dr dc_De_told 21 rfl) (zd_dr dc_De_told 22 rfl)) ?_
  refine zd_ac (ok_iload_n (l := l) (B := B) (y := m_De_told) (pc := 42) (k := 2) rfl (zd_dr dc_De_told 23 rfl)) ?_
  refine zd_ac (ok_sw (l := l) (B := B) (y := m_De_told) (pc := 43) (zd_dr dc_De_told 24 rfl) (by decide) (by unfold zd_swok; decide +kernel)) ?_
  refine zd_ac (ok_aload_n (l := l) (B := B) (y := m_De_told) (pc := 68) (k := 3) rfl (zd_dr dc_De_told 25 rfl)) ?_
  refine zd_ac (ok_callv (l := l) (B := B) (y := m_De_told) (pc := 69) hG (ci := 1) rfl cf_De_told_Dc_sign rfl (List.mem_of_getElem? (i := 787) (by decide +kernel)) (List.mem_of_getElem? (i := 788) (by decide +kernel)) (List.mem_of_getElem? (i := 789) (by decide +kernel)) (zd_dr dc_De_told 26 rfl)) ?_
  refine zd_ac (ok_iret (l := l) (B := B) (y := m_De_told) (pc := 72) rfl (zd_dr dc_De_told 27 rfl)) ?_
  refine zd_ac (ok_aload_n (l := l) (B := B) (y := m_De_told) (pc := 73) (k := 3) rfl (zd_dr dc_De_told 28 rfl)) ?_
  refine zd_ac (ok_getf (l := l) (B := B) (y := m_De_told) (pc := 74) hG (C := zR1) (T := zT1) (N := 3) (ci := 1) (k := 2) rfl zl1 (by decide) (List.mem_of_getElem? (i := 118) (by decide +kernel)) (zd_dr dc_De_told 29 rfl)) ?_
  refine zd_ac (ok_iret (l := l) (B := B) (y := m_De_told) (pc := 77) rfl (zd_dr dc_De_told 30 rfl)) ?_
  refine zd_ac (ok_iload (l := l) (B := B) (y := m_De_told) (pc := 78) (zd_dr dc_De_told 31 rfl)) ?_
  refine zd_ac (ok_iret (l := l) (B := B) (y := m_De_told) (pc := 80) rfl (zd_dr dc_De_told 32 rfl)) ?_
  refine zd_ac (ok_aload_n (l := l) (B := B) (y := m_De_told) (pc := 81) (k := 3) rfl (zd_dr dc_De_told 33 rfl)) ?_
  refine zd_ac (ok_getf (l := l) (B := B) (y := m_De_told) (pc := 82) hG (C := zR1) (T := zT1) (N := 3) (ci := 1) (k := 0) rfl zl1 (by decide) (List.mem_of_getElem? (i := 110) (by decide +kernel)) (zd_dr dc_De_told 34 rfl)) ?_
  refine zd_ac (ok_iload (l := l) (B := B) (y := m_De_told) (pc := 85) (zd_dr dc_De_told 35 rfl)) ?_
  refine zd_ac (ok_iconst (l := l) (B := B) (y := m_De_told) (pc := 87) (n := (1)) (zd_dr dc_De_told 36 rfl) rfl) ?_
  refine zd_ac (ok_isub (l := l) (B := B) (y := m_De_told) (pc := 88) (zd_dr dc_De_told 37 rfl)) ?_
  refine zd_ac (ok_iload_n (l := l) (B := B) (y := m_De_told) (pc := 89) (k := 2) rfl (zd_dr dc_De_told 38 rfl)) ?_
  refine zd_ac (ok_iconst (l := l) (B := B) (y := m_De_told) (pc := 90) (n := (3)) (zd_dr dc_De_told 39 rfl) rfl) ?_
  refine zd_ac (ok_isub (l := l) (B := B) (y := m_De_told) (pc := 91) (zd_dr dc_De_told 40 rfl)) ?_
  refine zd_ac (ok_isub (l := l) (B := B) (y := m_De_told) (pc := 92) (zd_dr dc_De_told 41 rfl)) ?_
  refine zd_ac (ok_callv (l := l) (B := B) (y := m_De_told) (pc := 93) hG (ci := 4) rfl cf_De_told_Na_digitAt rfl (List.mem_of_getElem? (i := 820) (by decide +kernel)) (List.mem_of_getElem? (i := 648) (by decide +kernel)) (List.mem_of_getElem? (i := 649) (by decide +kernel)) (zd_dr dc_De_told 42 rfl)) ?_
  refine zd_ac (ok_iret (l := l) (B := B) (y := m_De_told) (pc := 96) rfl (zd_dr dc_De_told 43 rfl)) ?_
  exact zd_an
def dl_De_written : List (Nat × Instr × Nat) := [(0, .iload_n 1, 1), (1, .invokestatic 73, 3), (4, .iload_n 2, 1), (5, .ifCond .lt (8), 3), (8, .iload_n 2, 1), (9, .iconst (3), 1), (10, .if_icmp .lt (13), 3), (13, .new 188, 3), (16, .dup, 1), (17, .ldc 245, 2), (19, .invokespecial 192, 3), (22, .athrow, 1), (23, .aload_n 0, 1), (24, .getfield 26, 3), (27, .aload_n 0, 1), (28, .getfield 11, 3), (31, .iload_n 1, 1), (32, .aaload, 1), (33, .iload_n 2, 1), (34, .invokevirtual 247, 3), (37, .ireturn, 1)]
theorem dc_De_written : ∀ q ∈ dl_De_written, decode (zd_yb m_De_written) q.1 = .ok q.2 := by decide +kernel
def cd_De_written (l : Launch) (B : zd_B) : List (Nat × zd_S) := [(0, oc_iload 1 1), (1, oc_calls l B m_De_demandRegister 1 4), (4, oc_iload 2 5), (5, oc_if_lt 13 8), (8, oc_iload 2 9), (9, oc_ci (3) 10), (10, oc_icmp_lt 23 13), (13, oc_throw B 9), (23, oc_aload 0 24), (24, oc_getf B 0 2 27), (27, oc_aload 0 28), (28, oc_getf B 0 0 31), (31, oc_iload 1 32), (32, oc_aaload B 33), (33, oc_iload 2 34), (34, oc_callv l B 7 m_Te_spell 2 37), (37, oc_iret .int)]
set_option maxRecDepth 20000 in
theorem ok_De_written {l : Launch} {B : zd_B} (hG : zd_G B) (hl : l.stackTraces = false) : ∀ q ∈ cd_De_written l B, zd_ok l B m_De_written q.1 q.2 := by
  unfold cd_De_written
  refine zd_ac (ok_iload_n (l := l) (B := B) (y := m_De_written) (pc := 0) (k := 1) rfl (zd_dr dc_De_written 0 rfl)) ?_
  refine zd_ac (ok_calls (l := l) (B := B) (y := m_De_written) (pc := 1) hG cf_De_written_De_demandRegister rfl (List.mem_of_getElem? (i := 297) (by decide +kernel)) (List.mem_of_getElem? (i := 298) (by decide +kernel)) (List.mem_of_getElem? (i := 56) (by decide +kernel)) (zd_dr dc_De_written 1 rfl)) ?_
  refine zd_ac (ok_iload_n (l := l) (B := B) (y := m_De_written) (pc := 4) (k := 2) rfl (zd_dr dc_De_written 2 rfl)) ?_
  refine zd_ac (ok_if_lt (l := l) (B := B) (y := m_De_written) (pc := 5) (zd_dr dc_De_written 3 rfl) (by decide)) ?_
  refine zd_ac (ok_iload_n (l := l) (B := B) (y := m_De_written) (pc := 8) (k := 2) rfl (zd_dr dc_De_written 4 rfl)) ?_
  refine zd_ac (ok_iconst (l := l) (B := B) (y := m_De_written) (pc := 9) (n := (3)) (zd_dr dc_De_written 5 rfl) rfl) ?_
  refine zd_ac (ok_icmp_lt (l := l) (B := B) (y := m_De_written) (pc := 10) (zd_dr dc_De_written 6 rfl) (by decide)) ?_
  refine zd_ac (ok_throw (l := l) (B := B) (y := m_De_written) (pc := 13) hG hl zE9 zx_De_188_245_192 rfl (by decide) (by decide) (zd_dr dc_De_written 7 rfl) (zd_dr dc_De_written 8 rfl) (zd_dr dc_De_written 9 rfl) (zd_dr dc_De_written 10 rfl) (zd_dr dc_De_written 11 rfl)) ?_
  refine zd_ac (ok_aload_n (l := l) (B := B) (y := m_De_written) (pc := 23) (k := 0) rfl (zd_dr dc_De_written 12 rfl)) ?_
  refine zd_ac (ok_getf (l := l) (B := B) (y := m_De_written) (pc := 24) hG (C := zR0) (T := zT0) (N := 8) (ci := 0) (k := 2) rfl zl0 (by decide) (List.mem_of_getElem? (i := 236) (by decide +kernel)) (zd_dr dc_De_written 13 rfl)) ?_
  refine zd_ac (ok_aload_n (l := l) (B := B) (y := m_De_written) (pc := 27) (k := 0) rfl (zd_dr dc_De_written 14 rfl)) ?_
  refine zd_ac (ok_getf (l := l) (B := B) (y := m_De_written) (pc := 28) hG (C := zR0) (T := zT0) (N := 8) (ci := 0) (k := 0) rfl zl0 (by decide) (List.mem_of_getElem? (i := 234) (by decide +kernel)) (zd_dr dc_De_written 15 rfl)) ?_
  refine zd_ac (ok_iload_n (l := l) (B := B) (y := m_De_written) (pc := 31) (k := 1) rfl (zd_dr dc_De_written 16 rfl)) ?_
  refine zd_ac (ok_aaload (l := l) (B := B) (y := m_De_written) (pc := 32) hG (zd_dr dc_De_written 17 rfl)) ?_
  refine zd_ac (ok_iload_n (l := l) (B := B) (y := m_De_written) (pc := 33) (k := 2) rfl (zd_dr dc_De_written 18 rfl)) ?_
  refine zd_ac (ok_callv (l := l) (B := B) (y := m_De_written) (pc := 34) hG (ci := 7) rfl cf_De_written_Te_spell rfl (List.mem_of_getElem? (i := 829) (by decide +kernel)) (List.mem_of_getElem? (i := 830) (by decide +kernel)) (List.mem_of_getElem? (i := 831) (by decide +kernel)) (zd_dr dc_De_written 19 rfl)) ?_
  refine zd_ac (ok_iret (l := l) (B := B) (y := m_De_written) (pc := 37) rfl (zd_dr dc_De_written 20 rfl)) ?_
  exact zd_an
def dl_De_character : List (Nat × Instr × Nat) := [(0, .aload_n 0, 1), (1, .getfield 26, 3), (4, .iload_n 1, 1), (5, .invokevirtual 251, 3), (8, .ireturn, 1)]
theorem dc_De_character : ∀ q ∈ dl_De_character, decode (zd_yb m_De_character) q.1 = .ok q.2 := by decide +kernel
def cd_De_character (l : Launch) (B : zd_B) : List (Nat × zd_S) := [(0, oc_aload 0 1), (1, oc_getf B 0 2 4), (4, oc_iload 1 5), (5, oc_callv l B 7 m_Te_at 1 8), (8, oc_iret .int)]
set_option maxRecDepth 20000 in
theorem ok_De_character {l : Launch} {B : zd_B} (hG : zd_G B) (hl : l.stackTraces = false) : ∀ q ∈ cd_De_character l B, zd_ok l B m_De_character q.1 q.2 := by
  unfold cd_De_character
  refine zd_ac (ok_aload_n (l := l) (B := B) (y := m_De_character) (pc := 0) (k := 0) rfl (zd_dr dc_De_character 0 rfl)) ?_
  refine zd_ac (ok_getf (l := l) (B := B) (y := m_De_character) (pc := 1) hG (C := zR0) (T := zT0) (N := 8) (ci := 0) (k := 2) rfl zl0 (by decide) (List.mem_of_getElem? (i := 236) (by decide +kernel)) (zd_dr dc_De_character 1 rfl)) ?_
  refine zd_ac (ok_iload_n (l := l) (B := B) (y := m_De_character) (pc := 4) (k := 1) rfl (zd_dr dc_De_character 2 rfl)) ?_
  refine zd_ac (ok_callv (l := l) (B := B) (y := m_De_character) (pc := 5) hG (ci := 7) rfl cf_De_character_Te_at rfl (List.mem_of_getElem? (i := 283) (by decide +kernel)) (List.mem_of_getElem? (i := 284) (by decide +kernel)) (List.mem_of_getElem? (i := 285) (by decide +kernel)) (zd_dr dc_De_character 3 rfl)) ?_
  refine zd_ac (ok_iret (l := l) (B := B) (y := m_De_character) (pc := 8) rfl (zd_dr dc_De_character 4 rfl)) ?_
  exact zd_an
def dl_De_demandRegister : List (Nat × Instr × Nat) := [(0, .iload_n 0, 1), (1, .ifCond .lt (9), 3), (4, .iload_n 0, 1), (5, .bipush (10), 2), (7, .if_icmp .lt (13), 3), (10, .new 188, 3), (13, .dup, 1), (14, .ldc 254, 2), (16, .invokespecial 192, 3), (19, .athrow, 1), (20, .return_, 1)]
theorem dc_De_demandRegister : ∀ q ∈ dl_De_demandRegister, decode (zd_yb m_De_demandRegister) q.1 = .ok q.2 := by decide +kernel
def cd_De_demandRegister (l : Launch) (B : zd_B) : List (Nat × zd_S) := [(0, oc_iload 0 1), (1, oc_if_lt 10 4), (4, oc_iload 0 5), (5, oc_ci (10) 7), (7, oc_icmp_lt 20 10), (10, oc_throw B 9), (20, oc_vret)]
set_option maxRecDepth 20000 in
theorem ok_De_demandRegister {l : Launch} {B : zd_B} (hG : zd_G B) (hl : l.stackTraces = false) : ∀ q ∈ cd_De_demandRegister l B, zd_ok l B m_De_demandRegister q.1 q.2 := by
  unfold cd_De_demandRegister
  refine zd_ac (ok_iload_n (l := l) (B := B) (y := m_De_demandRegister) (pc := 0) (k := 0) rfl (zd_dr dc_De_demandRegister 0 rfl)) ?_
  refine zd_ac (ok_if_lt (l := l) (B := B) (y := m_De_demandRegister) (pc := 1) (zd_dr dc_De_demandRegister 1 rfl) (by decide)) ?_
  refine zd_ac (ok_iload_n (l := l) (B := B) (y := m_De_demandRegister) (pc := 4) (k := 0) rfl (zd_dr dc_De_demandRegister 2 rfl)) ?_
  refine zd_ac (ok_bipush (l := l) (B := B) (y := m_De_demandRegister) (pc := 5) (n := (10)) (zd_dr dc_De_demandRegister 3 rfl) rfl) ?_
  refine zd_ac (ok_icmp_lt (l := l) (B := B) (y := m_De_demandRegister) (pc := 7) (zd_dr dc_De_demandRegister 4 rfl) (by decide)) ?_
  refine zd_ac (ok_throw (l := l) (B := B) (y := m_De_demandRegister) (pc := 10) hG hl zE9 zx_De_188_254_192 rfl (by decide) (by decide) (zd_dr dc_De_demandRegister 5 rfl) (zd_dr dc_De_demandRegister 6 rfl) (zd_dr dc_De_demandRegister 7 rfl) (zd_dr dc_De_demandRegister 8 rfl) (zd_dr dc_De_demandRegister 9 rfl)) ?_
  refine zd_ac (ok_vret (l := l) (B := B) (y := m_De_demandRegister) (pc := 20) rfl (zd_dr dc_De_demandRegister 10 rfl)) ?_
  exact zd_an
def dl_De_demandRegisters2 : List (Nat × Instr × Nat) := [(0, .iload_n 0, 1), (1, .invokestatic 73, 3), (4, .iload_n 1, 1), (5, .invokestatic 73, 3), (8, .return_, 1)]
theorem dc_De_demandRegisters2 : ∀ q ∈ dl_De_demandRegisters2, decode (zd_yb m_De_demandRegisters2) q.1 = .ok q.2 := by decide +kernel
def cd_De_demandRegisters2 (l : Launch) (B : zd_B) : List (Nat × zd_S) := [(0, oc_iload 0 1), (1, oc_calls l B m_De_demandRegister 1 4), (4, oc_iload 1 5), (5, oc_calls l B m_De_demandRegister 1 8), (8, oc_vret)]
set_option maxRecDepth 20000 in
theorem ok_De_demandRegisters2 {l : Launch} {B : zd_B} (hG : zd_G B) (hl : l.stackTraces = false) : ∀ q ∈ cd_De_demandRegisters2 l B, zd_ok l B m_De_demandRegisters2 q.1 q.2 := by
  unfold cd_De_demandRegisters2
  refine zd_ac (ok_iload_n (l := l) (B := B) (y := m_De_demandRegisters2) (pc := 0) (k := 0) rfl (zd_dr dc_De_demandRegisters2 0 rfl)) ?_
  refine zd_ac (ok_calls (l := l) (B := B) (y := m_De_demandRegisters2) (pc := 1) hG cf_De_demandRegisters2_De_demandRegister rfl (List.mem_of_getElem? (i := 297) (by decide +kernel)) (List.mem_of_getElem? (i := 298) (by decide +kernel)) (List.mem_of_getElem? (i := 56) (by decide +kernel)) (zd_dr dc_De_demandRegisters2 1 rfl)) ?_
  refine zd_ac (ok_iload_n (l := l) (B := B) (y := m_De_demandRegisters2) (pc := 4) (k := 1) rfl (zd_dr dc_De_demandRegisters2 2 rfl)) ?_
  refine zd_ac (ok_calls (l := l) (B := B) (y := m_De_demandRegisters2) (pc := 5) hG cf_De_demandRegisters2_De_demandRegister rfl (List.mem_of_getElem? (i := 297) (by decide +kernel)) (List.mem_of_getElem? (i := 298) (by decide +kernel)) (List.mem_of_getElem? (i := 56) (by decide +kernel)) (zd_dr dc_De_demandRegisters2 3 rfl)) ?_
  refine zd_ac (ok_vret (l := l) (B := B) (y := m_De_demandRegisters2) (pc := 8) rfl (zd_dr dc_De_demandRegisters2 4 rfl)) ?_
  exact zd_an
def dl_De_demandRegisters3 : List (Nat × Instr × Nat) := [(0, .iload_n 0, 1), (1, .iload_n 1, 1), (2, .invokestatic 186, 3), (5, .iload_n 2, 1), (6, .invokestatic 73, 3), (9, .return_, 1)]
theorem dc_De_demandRegisters3 : ∀ q ∈ dl_De_demandRegisters3, decode (zd_yb m_De_demandRegisters3) q.1 = .ok q.2 := by decide +kernel
def cd_De_demandRegisters3 (l : Launch) (B : zd_B) : List (Nat × zd_S) := [(0, oc_iload 0 1), (1, oc_iload 1 2), (2, oc_calls l B m_De_demandRegisters2 2 5), (5, oc_iload 2 6), (6, oc_calls l B m_De_demandRegister 1 9), (9, oc_vret)]
set_option maxRecDepth 20000 in
theorem ok_De_demandRegisters3 {l : Launch} {B : zd_B} (hG : zd_G B) (hl : l.stackTraces = false) : ∀ q ∈ cd_De_demandRegisters3 l B, zd_ok l B m_De_demandRegisters3 q.1 q.2 := by
  unfold cd_De_demandRegisters3
  refine zd_ac (ok_iload_n (l := l) (B := B) (y := m_De_demandRegisters3) (pc := 0) (k := 0) rfl (zd_dr dc_De_demandRegisters3 0 rfl)) ?_
  refine zd_ac (ok_iload_n (l := l) (B := B) (y := m_De_demandRegisters3) (pc := 1) (k := 1) rfl (zd_dr dc_De_demandRegisters3 1 rfl)) ?_
  refine zd_ac (ok_calls (l := l) (B := B) (y := m_De_demandRegisters3) (pc := 2) hG cf_De_demandRegisters3_De_demandRegisters2 rfl (List.mem_of_getElem? (i := 516) (by decide +kernel)) (List.mem_of_getElem? (i := 517) (by decide +kernel)) (List.mem_of_getElem? (i := 56) (by decide +kernel)) (zd_dr dc_De_demandRegisters3 2 rfl)) ?_
  refine zd_ac (ok_iload_n (l := l) (B := B) (y := m_De_demandRegisters3) (pc := 5) (k := 2) rfl (zd_dr dc_De_demandRegisters3 3 rfl)) ?_
  refine zd_ac (ok_calls (l := l) (B := B) (y := m_De_demandRegisters3) (pc := 6) hG cf_De_demandRegisters3_De_demandRegister rfl (List.mem_of_getElem? (i := 297) (by decide +kernel)) (List.mem_of_getElem? (i := 298) (by decide +kernel)) (List.mem_of_getElem? (i := 56) (by decide +kernel)) (zd_dr dc_De_demandRegisters3 4 rfl)) ?_
  refine zd_ac (ok_vret (l := l) (B := B) (y := m_De_demandRegisters3) (pc := 9) rfl (zd_dr dc_De_demandRegisters3 5 rfl)) ?_
  exact zd_an
def dl_De_demandMode : List (Nat × Instr × Nat) := [(0, .iload_n 0, 1), (1, .ifCond .lt (9), 3), (4, .iload_n 0, 1), (5, .bipush (8), 2), (7, .if_icmp .lt (14), 3), (10, .new 188, 3), (13, .dup, 1), (14, .ldc_w 256, 3), (17, .invokespecial 192, 3), (20, .athrow, 1), (21, .return_, 1)]
theorem dc_De_demandMode : ∀ q ∈ dl_De_demandMode, decode (zd_yb m_De_demandMode) q.1 = .ok q.2 := by decide +kernel
def cd_De_demandMode (l : Launch) (B : zd_B) : List (Nat × zd_S) := [(0, oc_iload 0 1), (1, oc_if_lt 10 4), (4, oc_iload 0 5), (5, oc_ci (8) 7), (7, oc_icmp_lt 21 10), (10, oc_throw B 9), (21, oc_vret)]
set_option maxRecDepth 20000 in
theorem ok_De_demandMode {l : Launch} {B : zd_B} (hG : zd_G B) (hl : l.stackTraces = false) : ∀ q ∈ cd_De_demandMode l B, zd_ok l B m_De_demandMode q.1 q.2 := by
  unfold cd_De_demandMode
  refine zd_ac (ok_iload_n (l := l) (B := B) (y := m_De_demandMode) (pc := 0) (k := 0) rfl (zd_dr dc_De_demandMode 0 rfl)) ?_
  refine zd_ac (ok_if_lt (l := l) (B := B) (y := m_De_demandMode) (pc := 1) (zd_dr dc_De_demandMode 1 rfl) (by decide)) ?_
  refine zd_ac (ok_iload_n (l := l) (B := B) (y := m_De_demandMode) (pc := 4) (k := 0) rfl (zd_dr dc_De_demandMode 2 rfl)) ?_
  refine zd_ac (ok_bipush (l := l) (B := B) (y := m_De_demandMode) (pc := 5) (n := (8)) (zd_dr dc_De_demandMode 3 rfl) rfl) ?_
  refine zd_ac (ok_icmp_lt (l := l) (B := B) (y := m_De_demandMode) (pc := 7) (zd_dr dc_De_demandMode 4 rfl) (by decide)) ?_
  refine zd_ac (ok_throwW (l := l) (B := B) (y := m_De_demandMode) (pc := 10) hG hl zE9 zx_De_188_256_192 rfl (by decide) (by decide) (zd_dr dc_De_demandMode 5 rfl) (zd_dr dc_De_demandMode 6 rfl) (zd_dr dc_De_demandMode 7 rfl) (zd_dr dc_De_demandMode 8 rfl) (zd_dr dc_De_demandMode 9 rfl)) ?_
  refine zd_ac (ok_vret (l := l) (B := B) (y := m_De_demandMode) (pc := 21) rfl (zd_dr dc_De_demandMode 10 rfl)) ?_
  exact zd_an
def dl_De_demandPrecision : List (Nat × Instr × Nat) := [(0, .iload_n 0, 1), (1, .iload_n 1, 1), (2, .if_icmp .lt (10), 3), (5, .iload_n 0, 1), (6, .sipush (1000), 3), (9, .if_icmp .le (14), 3), (12, .new 188, 3), (15, .dup, 1), (16, .ldc_w 258, 3), (19, .invokespecial 192, 3), (22, .athrow, 1), (23, .return_, 1)]
theorem dc_De_demandPrecision : ∀ q ∈ dl_De_demandPrecision, decode (zd_yb m_De_demandPrecision) q.1 = .ok q.2 := by decide +kernel
def cd_De_demandPrecision (l : Launch) (B : zd_B) : List (Nat × zd_S) := [(0, oc_iload 0 1), (1, oc_iload 1 2), (2, oc_icmp_lt 12 5), (5, oc_iload 0 6), (6, oc_ci (1000) 9), (9, oc_icmp_le 23 12), (12, oc_throw B 9), (23, oc_vret)]
set_option maxRecDepth 20000 in
theorem ok_De_demandPrecision {l : Launch} {B : zd_B} (hG : zd_G B) (hl : l.stackTraces = false) : ∀ q ∈ cd_De_demandPrecision l B, zd_ok l B m_De_demandPrecision q.1 q.2 := by
  unfold cd_De_demandPrecision
  refine zd_ac (ok_iload_n (l := l) (B := B) (y := m_De_demandPrecision) (pc := 0) (k := 0) rfl (zd_dr dc_De_demandPrecision 0 rfl)) ?_
  refine zd_ac (ok_iload_n (l := l) (B := B) (y := m_De_demandPrecision) (pc := 1) (k := 1) rfl (zd_dr dc_De_demandPrecision 1 rfl)) ?_
  refine zd_ac (ok_icmp_lt (l := l) (B := B) (y := m_De_demandPrecision) (pc := 2) (zd_dr dc_De_demandPrecision 2 rfl) (by decide)) ?_
  refine zd_ac (ok_iload_n (l := l) (B := B) (y := m_De_demandPrecision) (pc := 5) (k := 0) rfl (zd_dr dc_De_demandPrecision 3 rfl)) ?_
  refine zd_ac (ok_sipush (l := l) (B := B) (y := m_De_demandPrecision) (pc := 6) (n := (1000)) (zd_dr dc_De_demandPrecision 4 rfl) rfl) ?_
  refine zd_ac (ok_icmp_le (l := l) (B := B) (y := m_De_demandPrecision) (pc := 9) (zd_dr dc_De_demandPrecision 5 rfl) (by decide)) ?_
  refine zd_ac (ok_throwW (l := l) (B := B) (y := m_De_demandPrecision) (pc := 12) hG hl zE9 zx_De_188_258_192 rfl (by decide) (by decide) (zd_dr dc_De_demandPrecision 6 rfl) (zd_dr dc_De_demandPrecision 7 rfl) (zd_dr dc_De_demandPrecision 8 rfl) (zd_dr dc_De_demandPrecision 9 rfl) (zd_dr dc_De_demandPrecision 10 rfl)) ?_
  refine zd_ac (ok_vret (l := l) (B := B) (y := m_De_demandPrecision) (pc := 23) rfl (zd_dr dc_De_demandPrecision 11 rfl)) ?_
  exact zd_an
def dl_De_isScale : List (Nat × Instr × Nat) := [(0, .lload_n 0, 1), (1, .ldc2_w 260, 3), (4, .lcmp, 1), (5, .ifCond .lt (15), 3), (8, .lload_n 0, 1), (9, .ldc2_w 262, 3), (12, .lcmp, 1), (13, .ifCond .gt (7), 3), (16, .iconst (1), 1), (17, .goto (4), 3), (20, .iconst (0), 1), (21, .ireturn, 1)]
theorem dc_De_isScale : ∀ q ∈ dl_De_isScale, decode (zd_yb m_De_isScale) q.1 = .ok q.2 := by decide +kernel
def cd_De_isScale (l : Launch) (B : zd_B) : List (Nat × zd_S) := [(0, oc_lload 0 1), (1, oc_cl (-10000) 4), (4, oc_lcmp 5), (5, oc_if_lt 20 8), (8, oc_lload 0 9), (9, oc_cl (10000) 12), (12, oc_lcmp 13), (13, oc_if_gt 20 16), (16, oc_ci (1) 17), (17, oc_goto 21), (20, oc_ci (0) 21), (21, oc_iret .boolean)]
set_option maxRecDepth 20000 in
theorem ok_De_isScale {l : Launch} {B : zd_B} (hG : zd_G B) (hl : l.stackTraces = false) : ∀ q ∈ cd_De_isScale l B, zd_ok l B m_De_isScale q.1 q.2 := by
  unfold cd_De_isScale
  refine zd_ac (ok_lload_n (l := l) (B := B) (y := m_De_isScale) (pc := 0) (k := 0) rfl (zd_dr dc_De_isScale 0 rfl)) ?_
  refine zd_ac (ok_ldc2 (l := l) (B := B) (y := m_De_isScale) (pc := 1) hG (List.mem_of_getElem? (i := 415) (by decide +kernel)) (zd_dr dc_De_isScale 1 rfl)) ?_
  refine zd_ac (ok_lcmp (l := l) (B := B) (y := m_De_isScale) (pc := 4) (zd_dr dc_De_isScale 2 rfl)) ?_
  refine zd_ac (ok_if_lt (l := l) (B := B) (y := m_De_isScale) (pc := 5) (zd_dr dc_De_isScale 3 rfl) (by decide)) ?_
  refine zd_ac (ok_lload_n (l := l) (B := B) (y := m_De_isScale) (pc := 8) (k := 0) rfl (zd_dr dc_De_isScale 4 rfl)) ?_
  refine zd_ac (ok_ldc2 (l := l) (B := B) (y := m_De_isScale) (pc := 9) hG (List.mem_of_getElem? (i := 416) (by decide +kernel)) (zd_dr dc_De_isScale 5 rfl)) ?_
  refine zd_ac (ok_lcmp (l := l) (B := B) (y := m_De_isScale) (pc := 12) (zd_dr dc_De_isScale 6 rfl)) ?_
  refine zd_ac (ok_if_gt (l := l) (B := B) (y := m_De_isScale) (pc := 13) (zd_dr dc_De_isScale 7 rfl) (by decide)) ?_
  refine zd_ac (ok_iconst (l := l) (B := B) (y := m_De_isScale) (pc := 16) (n := (1)) (zd_dr dc_De_isScale 8 rfl) rfl) ?_
  refine zd_ac (ok_goto (l := l) (B := B) (y := m_De_isScale) (pc := 17) (zd_dr dc_De_isScale 9 rfl) (by decide)) ?_
  refine zd_ac (ok_iconst (l := l) (B := B) (y := m_De_isScale) (pc := 20) (n := (0)) (zd_dr dc_De_isScale 10 rfl) rfl) ?_
  refine zd_ac (ok_iret (l := l) (B := B) (y := m_De_isScale) (pc := 21) rfl (zd_dr dc_De_isScale 11 rfl)) ?_
  exact zd_an
def dl_De_demandWantedScale : List (Nat × Instr × Nat) := [(0, .iload_n 0, 1), (1, .i2l, 1), (2, .invokestatic 264, 3), (5, .ifCond .ne (14), 3), (8, .new 188, 3), (11, .dup, 1), (12, .ldc_w 268, 3), (15, .invokespecial 192, 3), (18, .athrow, 1), (19, .return_, 1)]
theorem dc_De_demandWantedScale : ∀ q ∈ dl_De_demandWantedScale, decode (zd_yb m_De_demandWantedScale) q.1 = .ok q.2 := by decide +kernel
def cd_De_demandWantedScale (l : Launch) (B : zd_B) : List (Nat × zd_S) := [(0, oc_iload 0 1), (1, oc_i2l 2), (2, oc_calls l B m_De_isScale 1 5), (5, oc_if_ne 19 8), (8, oc_throw B 9), (19, oc_vret)]
set_option maxRecDepth 20000 in
theorem ok_De_demandWantedScale {l : Launch} {B : zd_B} (hG : zd_G B) (hl : l.stackTraces = false) : ∀ q ∈ cd_De_demandWantedScale l B, zd_ok l B m_De_demandWantedScale q.1 q.2 := by
  unfold cd_De_demandWantedScale
  refine zd_ac (ok_iload_n (l := l) (B := B) (y := m_De_demandWantedScale) (pc := 0) (k := 0) rfl (zd_dr dc_De_demandWantedScale 0 rfl)) ?_
  refine zd_ac (ok_i2l (l := l) (B := B) (y := m_De_demandWantedScale) (pc := 1) (zd_dr dc_De_demandWantedScale 1 rfl)) ?_
  refine zd_ac (ok_calls (l := l) (B := B) (y := m_De_demandWantedScale) (pc := 2) hG cf_De_demandWantedScale_De_isScale rfl (List.mem_of_getElem? (i := 412) (by decide +kernel)) (List.mem_of_getElem? (i := 413) (by decide +kernel)) (List.mem_of_getElem? (i := 56) (by decide +kernel)) (zd_dr dc_De_demandWantedScale 2 rfl)) ?_
  refine zd_ac (ok_if_ne (l := l) (B := B) (y := m_De_demandWantedScale) (pc := 5) (zd_dr dc_De_demandWantedScale 3 rfl) (by decide)) ?_
  refine zd_ac (ok_throwW (l := l) (B := B) (y := m_De_demandWantedScale) (pc := 8) hG hl zE9 zx_De_188_268_192 rfl (by decide) (by decide) (zd_dr dc_De_demandWantedScale 4 rfl) (zd_dr dc_De_demandWantedScale 5 rfl) (zd_dr dc_De_demandWantedScale 6 rfl) (zd_dr dc_De_demandWantedScale 7 rfl) (zd_dr dc_De_demandWantedScale 8 rfl)) ?_
  refine zd_ac (ok_vret (l := l) (B := B) (y := m_De_demandWantedScale) (pc := 19) rfl (zd_dr dc_De_demandWantedScale 9 rfl)) ?_
  exact zd_an
def dl_De_demandScale : List (Nat × Instr × Nat) := [(0, .lload_n 0, 1), (1, .invokestatic 264, 3), (4, .ifCond .ne (14), 3), (7, .new 196, 3), (10, .dup, 1), (11, .ldc_w 270, 3), (14, .invokespecial 200, 3), (17, .athrow, 1), (18, .return_, 1)]
theorem dc_De_demandScale : ∀ q ∈ dl_De_demandScale, decode (zd_yb m_De_demandScale) q.1 = .ok q.2 := by decide +kernel
def cd_De_demandScale (l : Launch) (B : zd_B) : List (Nat × zd_S) := [(0, oc_lload 0 1), (1, oc_calls l B m_De_isScale 1 4), (4, oc_if_ne 18 7), (7, oc_throw B 11), (18, oc_vret)]
set_option maxRecDepth 20000 in
theorem ok_De_demandScale {l : Launch} {B : zd_B} (hG : zd_G B) (hl : l.stackTraces = false) : ∀ q ∈ cd_De_demandScale l B, zd_ok l B m_De_demandScale q.1 q.2 := by
  unfold cd_De_demandScale
  refine zd_ac (ok_lload_n (l := l) (B := B) (y := m_De_demandScale) (pc := 0) (k := 0) rfl (zd_dr dc_De_demandScale 0 rfl)) ?_
  refine zd_ac (ok_calls (l := l) (B := B) (y := m_De_demandScale) (pc := 1) hG cf_De_demandScale_De_isScale rfl (List.mem_of_getElem? (i := 412) (by decide +kernel)) (List.mem_of_getElem? (i := 413) (by decide +kernel)) (List.mem_of_getElem? (i := 56) (by decide +kernel)) (zd_dr dc_De_demandScale 1 rfl)) ?_
  refine zd_ac (ok_if_ne (l := l) (B := B) (y := m_De_demandScale) (pc := 4) (zd_dr dc_De_demandScale 2 rfl) (by decide)) ?_
  refine zd_ac (ok_throwW (l := l) (B := B) (y := m_De_demandScale) (pc := 7) hG hl zE11 zx_De_196_270_200 rfl (by decide) (by decide) (zd_dr dc_De_demandScale 3 rfl) (zd_dr dc_De_demandScale 4 rfl) (zd_dr dc_De_demandScale 5 rfl) (zd_dr dc_De_demandScale 6 rfl) (zd_dr dc_De_demandScale 7 rfl)) ?_
  refine zd_ac (ok_vret (l := l) (B := B) (y := m_De_demandScale) (pc := 18) rfl (zd_dr dc_De_demandScale 8 rfl)) ?_
  exact zd_an
def dl_De_demandDigits : List (Nat × Instr × Nat) := [(0, .aload_n 0, 1), (1, .invokevirtual 164, 3), (4, .sipush (1000), 3), (7, .if_icmp .le (14), 3), (10, .new 196, 3), (13, .dup, 1), (14, .ldc_w 272, 3), (17, .invokespecial 200, 3), (20, .athrow, 1), (21, .return_, 1)]
theorem dc_De_demandDigits : ∀ q ∈ dl_De_demandDigits, decode (zd_yb m_De_demandDigits) q.1 = .ok q.2 := by decide +kernel
def cd_De_demandDigits (l : Launch) (B : zd_B) : List (Nat × zd_S) := [(0, oc_aload 0 1), (1, oc_callv l B 4 m_Na_digits 0 4), (4, oc_ci (1000) 7), (7, oc_icmp_le 21 10), (10, oc_throw B 11), (21, oc_vret)]
set_option maxRecDepth 20000 in
theorem ok_De_demandDigits {l : Launch} {B : zd_B} (hG : zd_G B) (hl : l.stackTraces = false) : ∀ q ∈ cd_De_demandDigits l B, zd_ok l B m_De_demandDigits q.1 q.2 := by
  unfold cd_De_demandDigits
  refine zd_ac (ok_aload_n (l := l) (B := B) (y := m_De_demandDigits) (pc := 0) (k := 0) rfl (zd_dr dc_De_demandDigits 0 rfl)) ?_
  refine zd_ac (ok_callv (l := l) (B := B) (y := m_De_demandDigits) (pc := 1) hG (ci := 4) rfl cf_De_demandDigits_Na_digits rfl (List.mem_of_getElem? (i := 473) (by decide +kernel)) (List.mem_of_getElem? (i := 474) (by decide +kernel)) (List.mem_of_getElem? (i := 475) (by decide +kernel)) (zd_dr dc_De_demandDigits 1 rfl)) ?_
  refine zd_ac (ok_sipush (l := l) (B := B) (y := m_De_demandDigits) (pc := 4) (n := (1000)) (zd_dr dc_De_demandDigits 2 rfl) rfl) ?_
  refine zd_ac (ok_icmp_le (l := l) (B := B) (y := m_De_demandDigits) (pc := 7) (zd_dr dc_De_demandDigits 3 rfl) (by decide)) ?_
  refine zd_ac (ok_throwW (l := l) (B := B) (y := m_De_demandDigits) (pc := 10) hG hl zE11 zx_De_196_272_200 rfl (by decide) (by decide) (zd_dr dc_De_demandDigits 4 rfl) (zd_dr dc_De_demandDigits 5 rfl) (zd_dr dc_De_demandDigits 6 rfl) (zd_dr dc_De_demandDigits 7 rfl) (zd_dr dc_De_demandDigits 8 rfl)) ?_
  refine zd_ac (ok_vret (l := l) (B := B) (y := m_De_demandDigits) (pc := 21) rfl (zd_dr dc_De_demandDigits 9 rfl)) ?_
  exact zd_an
def dl_De_demandDivisor : List (Nat × Instr × Nat) := [(0, .aload_n 0, 1), (1, .getfield 131, 3), (4, .invokevirtual 201, 3), (7, .ifCond .eq (14), 3), (10, .new 196, 3), (13, .dup, 1), (14, .ldc_w 274, 3), (17, .invokespecial 200, 3), (20, .athrow, 1), (21, .return_, 1)]
theorem dc_De_demandDivisor : ∀ q ∈ dl_De_demandDivisor, decode (zd_yb m_De_demandDivisor) q.1 = .ok q.2 := by decide +kernel
def cd_De_demandDivisor (l : Launch) (B : zd_B) : List (Nat × zd_S) := [(0, oc_aload 0 1), (1, oc_getf B 1 0 4), (4, oc_callv l B 4 m_Na_isZero 0 7), (7, oc_if_eq 21 10), (10, oc_throw B 11), (21, oc_vret)]
set_option maxRecDepth 20000 in
theorem ok_De_demandDivisor {l : Launch} {B : zd_B} (hG : zd_G B) (hl : l.stackTraces = false) : ∀ q ∈ cd_De_demandDivisor l B, zd_ok l B m_De_demandDivisor q.1 q.2 := by
  unfold cd_De_demandDivisor
  refine zd_ac (ok_aload_n (l := l) (B := B) (y := m_De_demandDivisor) (pc := 0) (k := 0) rfl (zd_dr dc_De_demandDivisor 0 rfl)) ?_
  refine zd_ac (ok_getf (l := l) (B := B) (y := m_De_demandDivisor) (pc := 1) hG (C := zR1) (T := zT1) (N := 3) (ci := 1) (k := 0) rfl zl1 (by decide) (List.mem_of_getElem? (i := 110) (by decide +kernel)) (zd_dr dc_De_demandDivisor 1 rfl)) ?_
  refine zd_ac (ok_callv (l := l) (B := B) (y := m_De_demandDivisor) (pc := 4) hG (ci := 4) rfl cf_De_demandDivisor_Na_isZero rfl (List.mem_of_getElem? (i := 601) (by decide +kernel)) (List.mem_of_getElem? (i := 490) (by decide +kernel)) (List.mem_of_getElem? (i := 491) (by decide +kernel)) (zd_dr dc_De_demandDivisor 2 rfl)) ?_
  refine zd_ac (ok_if_eq (l := l) (B := B) (y := m_De_demandDivisor) (pc := 7) (zd_dr dc_De_demandDivisor 3 rfl) (by decide)) ?_
  refine zd_ac (ok_throwW (l := l) (B := B) (y := m_De_demandDivisor) (pc := 10) hG hl zE11 zx_De_196_274_200 rfl (by decide) (by decide) (zd_dr dc_De_demandDivisor 4 rfl) (zd_dr dc_De_demandDivisor 5 rfl) (zd_dr dc_De_demandDivisor 6 rfl) (zd_dr dc_De_demandDivisor 7 rfl) (zd_dr dc_De_demandDivisor 8 rfl)) ?_
  refine zd_ac (ok_vret (l := l) (B := B) (y := m_De_demandDivisor) (pc := 21) rfl (zd_dr dc_De_demandDivisor 9 rfl)) ?_
  exact zd_an
def dl_De_keep : List (Nat × Instr × Nat) := [(0, .aload_n 0, 1), (1, .getfield 49, 3), (4, .getfield 174, 3), (7, .i2l, 1), (8, .invokestatic 91, 3), (11, .aload_n 0, 1), (12, .getfield 49, 3), (15, .getfield 95, 3), (18, .invokestatic 276, 3), (21, .aload_n 0, 1), (22, .getfield 11, 3), (25, .iload_n 1, 1), (26, .aaload, 1), (27, .aload_n 0, 1), (28, .getfield 49, 3), (31, .invokevirtual 279, 3), (34, .return_, 1)]
theorem dc_De_keep : ∀ q ∈ dl_De_keep, decode (zd_yb m_De_keep) q.1 = .ok q.2 := by decide +kernel
def cd_De_keep (l : Launch) (B : zd_B) : List (Nat × zd_S) := [(0, oc_aload 0 1), (1, oc_getf B 0 5 4), (4, oc_getf B 6 2 7), (7, oc_i2l 8), (8, oc_calls l B m_De_demandScale 1 11), (11, oc_aload 0 12), (12, oc_getf B 0 5 15), (15, oc_getf B 6 0 18), (18, oc_calls l B m_De_demandDigits 1 21), (21, oc_aload 0 22), (22, oc_getf B 0 0 25), (25, oc_iload 1 26), (26, oc_aaload B 27), (27, oc_aload 0 28), (28, oc_getf B 0 5 31), (31, oc_callv l B 1 m_Dc_accept 1 34), (34, oc_vret)]
set_option maxRecDepth 20000 in
theorem ok_De_keep {l : Launch} {B : zd_B} (hG : zd_G B) (hl : l.stackTraces = false) : ∀ q ∈ cd_De_keep l B, zd_ok l B m_De_keep q.1 q.2 := by
  unfold cd_De_keep
  refine zd_ac (ok_aload_n (l := l) (B := B) (y := m_De_keep) (pc := 0) (k := 0) rfl (zd_dr dc_De_keep 0 rfl)) ?_
  refine zd_ac (ok_getf (l := l) (B := B) (y := m_De_keep) (pc := 1) hG (C := zR0) (T := zT0) (N := 8) (ci := 0) (k := 5) rfl zl0 (by decide) (List.mem_of_getElem? (i := 239) (by decide +kernel)) (zd_dr dc_De_keep 1 rfl)) ?_
  refine zd_ac (ok_getf (l := l) (B := B) (y := m_De_keep) (pc := 4) hG (C := zR6) (T := zT6) (N := 4) (ci := 6) (k := 2) rfl zl6 (by decide) (List.mem_of_getElem? (i := 220) (by decide +kernel)) (zd_dr dc_De_keep 2 rfl)) ?_
  refine zd_ac (ok_i2l (l := l) (B := B) (y := m_De_keep) (pc := 7) (zd_dr dc_De_keep 3 rfl)) ?_
  refine zd_ac (ok_calls (l := l) (B := B) (y := m_De_keep) (pc := 8) hG cf_De_keep_De_demandScale rfl (List.mem_of_getElem? (i := 409) (by decide +kernel)) (List.mem_of_getElem? (i := 410) (by decide +kernel)) (List.mem_of_getElem? (i := 56) (by decide +kernel)) (zd_dr dc_De_keep 4 rfl)) ?_
  refine zd_ac (ok_aload_n (l := l) (B := B) (y := m_De_keep) (pc := 11) (k := 0) rfl (zd_dr dc_De_keep 5 rfl)) ?_
  refine zd_ac (ok_getf (l := l) (B := B) (y := m_De_keep) (pc := 12) hG (C := zR0) (T := zT0) (N := 8) (ci := 0) (k := 5) rfl zl0 (by decide) (List.mem_of_getElem? (i := 239) (by decide +kernel)) (zd_dr dc_De_keep 6 rfl)) ?_
  refine zd_ac (ok_getf (l := l) (B := B) (y := m_De_keep) (pc := 15) hG (C := zR6) (T := zT6) (N := 4) (ci := 6) (k := 0) rfl zl6 (by decide) (List.mem_of_getElem? (i := 214) (by decide +kernel)) (zd_dr dc_De_keep 7 rfl)) ?_
  refine zd_ac (ok_calls (l := l) (B := B) (y := m_De_keep) (pc := 18) hG cf_De_keep_De_demandDigits rfl (List.mem_of_getElem? (i := 470) (by decide +kernel)) (List.mem_of_getElem? (i := 471) (by decide +kernel)) (List.mem_of_getElem? (i := 56) (by decide +kernel)) (zd_dr dc_De_keep 8 rfl)) ?_
  refine zd_ac (ok_aload_n (l := l) (B := B) (y := m_De_keep) (pc := 21) (k := 0) rfl (zd_dr dc_De_keep 9 rfl)) ?_
  refine zd_ac (ok_getf (l := l) (B := B) (y := m_De_keep) (pc := 22) hG (C := zR0) (T := zT0) (N := 8) (ci := 0) (k := 0) rfl zl0 (by decide) (List.mem_of_getElem? (i := 234) (by decide +kernel)) (zd_dr dc_De_keep 10 rfl)) ?_
  refine zd_ac (ok_iload_n (l := l) (B := B) (y := m_De_keep) (pc := 25) (k := 1) rfl (zd_dr dc_De_keep 11 rfl)) ?_
  refine zd_ac (ok_aaload (l := l) (B := B) (y := m_De_keep) (pc := 26) hG (zd_dr dc_De_keep 12 rfl)) ?_
  refine zd_ac (ok_aload_n (l := l) (B := B) (y := m_De_keep) (pc := 27) (k := 0) rfl (zd_dr dc_De_keep 13 rfl)) ?_
  refine zd_ac (ok_getf (l := l) (B := B) (y := m_De_keep) (pc := 28) hG (C := zR0) (T := zT0) (N := 8) (ci := 0) (k := 5) rfl zl0 (by decide) (List.mem_of_getElem? (i := 239) (by decide +kernel)) (zd_dr dc_De_keep 14 rfl)) ?_
  refine zd_ac (ok_callv (l := l) (B := B) (y := m_De_keep) (pc := 31) hG (ci := 1) rfl cf_De_keep_Dc_accept rfl (List.mem_of_getElem? (i := 478) (by decide +kernel)) (List.mem_of_getElem? (i := 479) (by decide +kernel)) (List.mem_of_getElem? (i := 480) (by decide +kernel)) (zd_dr dc_De_keep 15 rfl)) ?_
  refine zd_ac (ok_vret (l := l) (B := B) (y := m_De_keep) (pc := 34) rfl (zd_dr dc_De_keep 16 rfl)) ?_
  exact zd_an
def dl_De_align : List (Nat × Instr × Nat) := [(0, .aload_n 1, 1), (1, .getfield 136, 3), (4, .aload_n 2, 1), (5, .getfield 136, 3), (8, .invokestatic 283, 3), (11, .istore_n 3, 1), (12, .aload_n 0, 1), (13, .getfield 49, 3), (16, .aload_n 1, 1), (17, .invokevirtual 150, 3), (20, .aload_n 0, 1), (21, .getfield 49, 3), (24, .iload_n 3, 1), (25, .invokevirtual 210, 3), (28, .aload_n 0, 1), (29, .getfield 58, 3), (32, .aload_n 2, 1), (33, .getfield 131, 3), (36, .invokevirtual 175, 3), (39, .aload_n 0, 1), (40, .getfield 58, 3), (43, .iload_n 3, 1), (44, .aload_n 2, 1), (45, .getfield 136, 3), (48, .isub, 1), (49, .invokevirtual 178, 3), (52, .pop, 1), (53, .return_, 1)]
theorem dc_De_align : ∀ q ∈ dl_De_align, decode (zd_yb m_De_align) q.1 = .ok q.2 := by decide +kernel
def cd_De_align (l : Launch) (B : zd_B) : List (Nat × zd_S) := [(0, oc_aload 1 1), (1, oc_getf B 1 2 4), (4, oc_aload 2 5), (5, oc_getf B 1 2 8), (8, oc_calls l B m_Ma_max 2 11), (11, oc_istore 3 12), (12, oc_aload 0 13), (13, oc_getf B 0 5 16), (16, oc_aload 1 17), (17, oc_callv l B 6 m_Ru_take 1 20), (20, oc_aload 0 21), (21, oc_getf B 0 5 24), (24, oc_iload 3 25), (25, oc_callv l B 6 m_Ru_cutTo 1 28), (28, oc_aload 0 29), (29, oc_getf B 0 6 32), (32, oc_aload 2 33), (33, oc_getf B 1 0 36), (36, oc_callv l B 4 m_Na_copy 1 39), (39, oc_aload 0 40), (40, oc_getf B 0 6 43), (43, oc_iload 3 44), (44, oc_aload 2 45), (45, oc_getf B 1 2 48), (48, oc_isub 49), (49, oc_callv l B 4 m_Na_move 1 52), (52, oc_pop 53), (53, oc_vret)]
set_option maxRecDepth 20000 in
theorem ok_De_align {l : Launch} {B : zd_B} (hG : zd_G B) (hl : l.stackTraces = false) : ∀ q ∈ cd_De_align l B, zd_ok l B m_De_align q.1 q.2 := by
  unfold cd_De_align
  refine zd_ac (ok_aload_n (l := l) (B := B) (y := m_De_align) (pc := 0) (k := 1) rfl (zd_dr dc_De_align 0 rfl)) ?_
  refine zd_ac (ok_getf (l := l) (B := B) (y := m_De_align) (pc := 1) hG (C := zR1) (T := zT1) (N := 3) (ci := 1) (k := 2) rfl zl1 (by decide) (List.mem_of_getElem? (i := 118) (by decide +kernel)) (zd_dr dc_De_align 1 rfl)) ?_
  refine zd_ac (ok_aload_n (l := l) (B := B) (y := m_De_align) (pc := 4) (k := 2) rfl (zd_dr dc_De_align 2 rfl)) ?_
  refine zd_ac (ok_getf (l := l) (B := B) (y := m_De_align) (pc := 5) hG (C := zR1) (T := zT1) (N := 3) (ci := 1) (k := 2) rfl zl1 (by decide) (List.mem_of_getElem? (i := 118) (by decide +kernel)) (zd_dr dc_De_align 3 rfl)) ?_
  refine zd_ac (ok_calls (l := l) (B := B) (y := m_De_align) (pc := 8) hG cf_De_align_Ma_max rfl (List.mem_of_getElem? (i := 523) (by decide +kernel)) (List.mem_of_getElem? (i := 524) (by decide +kernel)) (List.mem_of_getElem? (i := 72) (by decide +kernel)) (zd_dr dc_De_align 4 rfl)) ?_
  refine zd_ac (ok_istore_n (l := l) (B := B) (y := m_De_align) (pc := 11) (k := 3) rfl (zd_dr dc_De_align 5 rfl) (by decide)) ?_
  refine zd_ac (ok_aload_n (l := l) (B := B) (y := m_De_align) (pc := 12) (k := 0) rfl (zd_dr dc_De_align 6 rfl)) ?_
  refine zd_ac (ok_getf (l := l) (B := B) (y := m_De_align) (pc := 13) hG (C := zR0) (T := zT0) (N := 8) (ci := 0) (k := 5) rfl zl0 (by decide) (List.mem_of_getElem? (i := 239) (by decide +kernel)) (zd_dr dc_De_align 7 rfl)) ?_
  refine zd_ac (ok_aload_n (l := l) (B := B) (y := m_De_align) (pc := 16) (k := 1) rfl (zd_dr dc_De_align 8 rfl)) ?_
  refine zd_ac (ok_callv (l := l) (B := B) (y := m_De_align) (pc := 17) hG (ci := 6) rfl cf_De_align_Ru_take rfl (List.mem_of_getElem? (i := 526) (by decide +kernel)) (List.mem_of_getElem? (i := 527) (by decide +kernel)) (List.mem_of_getElem? (i := 528) (by decide +kernel)) (zd_dr dc_De_align 9 rfl)) ?_
  refine zd_ac (ok_aload_n (l := l) (B := B) (y := m_De_align) (pc := 20) (k := 0) rfl (zd_dr dc_De_align 10 rfl)) ?_
  refine zd_ac (ok_getf (l := l) (B := B) (y := m_De_align) (pc := 21) hG (C := zR0) (T := zT0) (N := 8) (ci := 0) (k := 5) rfl zl0 (by decide) (List.mem_of_getElem? (i := 239) (by decide +kernel)) (zd_dr dc_De_align 11 rfl)) ?_
  refine zd_ac (ok_iload_n (l := l) (B := B) (y := m_De_align) (pc := 24) (k := 3) rfl (zd_dr dc_De_align 12 rfl)) ?_
  refine zd_ac (ok_callv (l := l) (B := B) (y := m_De_align) (pc := 25) hG (ci := 6) rfl cf_De_align_Ru_cutTo rfl (List.mem_of_getElem? (i := 532) (by decide +kernel)) (List.mem_of_getElem? (i := 533) (by decide +kernel)) (List.mem_of_getElem? (i := 534) (by decide +kernel)) (zd_dr dc_De_align 13 rfl)) ?_
  refine zd_ac (ok_aload_n (l := l) (B := B) (y := m_De_align) (pc := 28) (k := 0) rfl (zd_dr dc_De_align 14 rfl)) ?_
  refine zd_ac (ok_getf (l := l) (B := B) (y := m_De_align) (pc := 29) hG (C := zR0) (T := zT0) (N := 8) (ci := 0) (k := 6) rfl zl0 (by decide) (List.mem_of_getElem? (i := 240) (by decide +kernel)) (zd_dr dc_De_align 15 rfl)) ?_
  refine zd_ac (ok_aload_n (l := l) (B := B) (y := m_De_align) (pc := 32) (k := 2) rfl (zd_dr dc_De_align 16 rfl)) ?_
  refine zd_ac (ok_getf (l := l) (B := B) (y := m_De_align) (pc := 33) hG (C := zR1) (T := zT1) (N := 3) (ci := 1) (k := 0) rfl zl1 (by decide) (List.mem_of_getElem? (i := 110) (by decide +kernel)) (zd_dr dc_De_align 17 rfl)) ?_
  refine zd_ac (ok_callv (l := l) (B := B) (y := m_De_align) (pc := 36) hG (ci := 4) rfl cf_De_align_Na_copy rfl (List.mem_of_getElem? (i := 550) (by decide +kernel)) (List.mem_of_getElem? (i := 483) (by decide +kernel)) (List.mem_of_getElem? (i := 484) (by decide +kernel)) (zd_dr dc_De_align 18 rfl)) ?_
  refine zd_ac (ok_aload_n (l := l) (B := B) (y := m_De_align) (pc := 39) (k := 0) rfl (zd_dr dc_De_align 19 rfl)) ?_
  refine zd_ac (ok_getf (l := l) (B := B) (y := m_De_align) (pc := 40) hG (C := zR0) (T := zT0) (N := 8) (ci := 0) (k := 6) rfl zl0 (by decide) (List.mem_of_getElem? (i := 240) (by decide +kernel)) (zd_dr dc_De_align 20 rfl)) ?_
  refine zd_ac (ok_iload_n (l := l) (B := B) (y := m_De_align) (pc := 43) (k := 3) rfl (zd_dr dc_De_align 21 rfl)) ?_
  refine zd_ac (ok_aload_n (l := l) (B := B) (y := m_De_align) (pc := 44) (k := 2) rfl (zd_dr dc_De_align 22 rfl)) ?_
  refine zd_ac (ok_getf (l := l) (B := B) (y := m_De_align) (pc := 45) hG (C := zR1) (T := zT1) (N := 3) (ci := 1) (k := 2) rfl zl1 (by decide) (List.mem_of_getElem? (i := 118) (by decide +kernel)) (zd_dr dc_De_align 23 rfl)) ?_
  refine zd_ac (ok_isub (l := l) (B := B) (y := m_De_align) (pc := 48) (zd_dr dc_De_align 24 rfl)) ?_
  refine zd_ac (ok_callv (l := l) (B := B) (y := m_De_align) (pc := 49) hG (ci := 4) rfl cf_De_align_Na_move rfl (List.mem_of_getElem? (i := 551) (by decide +kernel)) (List.mem_of_getElem? (i := 537) (by decide +kernel)) (List.mem_of_getElem? (i := 538) (by decide +kernel)) (zd_dr dc_De_align 25 rfl)) ?_
  refine zd_ac (ok_pop (l := l) (B := B) (y := m_De_align) (pc := 52) (zd_dr dc_De_align 26 rfl)) ?_
  refine zd_ac (ok_vret (l := l) (B := B) (y := m_De_align) (pc := 53) rfl (zd_dr dc_De_align 27 rfl)) ?_
  exact zd_an
def dl_De_addSigned : List (Nat × Instr × Nat) := [(0, .aload_n 0, 1), (1, .getfield 49, 3), (4, .getfield 95, 3), (7, .astore_n 2, 1), (8, .aload_n 0, 1), (9, .getfield 49, 3), (12, .getfield 223, 3), (15, .iload_n 1, 1), (16, .if_icmp .ne (14), 3), (19, .aload_n 2, 1), (20, .aload_n 0, 1), (21, .getfield 58, 3), (24, .invokevirtual 286, 3), (27, .goto (49), 3), (30, .aload_n 2, 1), (31, .aload_n 0, 1), (32, .getfield 58, 3), (35, .invokevirtual 289, 3), (38, .ifCond .lt (14), 3), (41, .aload_n 2, 1), (42, .aload_n 0, 1), (43, .getfield 58, 3), (46, .invokevirtual 293, 3), (49, .goto (27), 3), (52, .aload_n 0, 1), (53, .getfield 58, 3), (56, .aload_n 2, 1), (57, .invokevirtual 293, 3), (60, .aload_n 2, 1), (61, .aload_n 0, 1), (62, .getfield 58, 3), (65, .invokevirtual 175, 3), (68, .aload_n 0, 1), (69, .getfield 49, 3), (72, .iload_n 1, 1), (73, .putfield 223, 3), (76, .return_, 1)]
theorem dc_De_addSigned : ∀ q ∈ dl_De_addSigned, decode (zd_yb m_De_addSigned) q.1 = .ok q.2 := by decide +kernel
def cd_De_addSigned (l : Launch) (B : zd_B) : List (Nat × zd_S) := [(0, oc_aload 0 1), (1, oc_getf B 0 5 4), (4, oc_getf B 6 0 7), (7, oc_astore 2 8), (8, oc_aload 0 9), (9, oc_getf B 0 5 12), (12, oc_getf B 6 1 15), (15, oc_iload 1 16), (16, oc_icmp_ne 30 19), (19, oc_aload 2 20), (20, oc_aload 0 21), (21, oc_getf B 0 6 24), (24, oc_callv l B 4 m_Na_raiseBy 1 27), (27, oc_goto 76), (30, oc_aload 2 31), (31, oc_aload 0 32), (32, oc_getf B 0 6 35), (35, oc_callv l B 4 m_Na_order 1 38), (38, oc_if_lt 52 41), (41, oc_aload 2 42), (42, oc_aload 0 43), (43, oc_getf B 0 6 46), (46, oc_callv l B 4 m_Na_lowerBy 1 49), (49, oc_goto 76), (52, oc_aload 0 53), (53, oc_getf B 0 6 56), (56, oc_aload 2 57), (57, oc_callv l B 4 m_Na_lowerBy 1 60), (60, oc_aload 2 61), (61, oc_aload 0 62), (62, oc_getf B 0 6 65), (65, oc_callv l B 4 m_Na_copy 1 68), (68, oc_aload 0 69), (69, oc_getf B 0 5 72), (72, oc_iload 1 73), (73, oc_putf B (zy6 1) 6 1 76), (76, oc_vret)]
set_option maxRecDepth 20000 in
theorem ok_De_addSigned {l : Launch} {B : zd_B} (hG : zd_G B) (hl : l.stackTraces = false) : ∀ q ∈ cd_De_addSigned l B, zd_ok l B m_De_addSigned q.1 q.2 := by
  unfold cd_De_addSigned
  refine zd_ac (ok_aload_n (l := l) (B := B) (y := m_De_addSigned) (pc := 0) (k := 0) rfl (zd_dr dc_De_addSigned 0 rfl)) ?_
  refine zd_ac (ok_getf (l := l) (B := B) (y := m_De_addSigned) (pc := 1) hG (C := zR0) (T := zT0) (N := 8) (ci := 0) (k := 5) rfl zl0 (by decide) (List.mem_of_getElem? (i := 239) (by decide +kernel)) (zd_dr dc_De_addSigned 1 rfl)) ?_
  refine zd_ac (ok_getf (l := l) (B := B) (y := m_De_addSigned) (pc := 4) hG (C := zR6) (T := zT6) (N := 4) (ci := 6) (k := 0) rfl zl6 (by decide) (List.mem_of_getElem? (i := 214) (by decide +kernel)) (zd_dr dc_De_addSigned 2 rfl)) ?_
  refine zd_ac (ok_astore_n (l := l) (B := B) (y := m_De_addSigned) (pc := 7) (k := 2) rfl (zd_dr dc_De_addSigned 3 rfl) (by decide)) ?_
  refine zd_ac (ok_aload_n (l := l) (B := B) (y := m_De_addSigned) (pc := 8) (k := 0) rfl (zd_dr dc_De_addSigned 4 rfl)) ?_
  refine zd_ac (ok_getf (l := l) (B := B) (y := m_De_addSigned) (pc := 9) hG (C := zR0) (T := zT0) (N := 8) (ci := 0) (k := 5) rfl zl0 (by decide) (List.mem_of_getElem? (i := 239) (by decide +kernel)) (zd_dr dc_De_addSigned 5 rfl)) ?_
  refine zd_ac (ok_getf (l := l) (B := B) (y := m_De_addSigned) (pc := 12) hG (C := zR6) (T := zT6) (N := 4) (ci := 6) (k := 1) rfl zl6 (by decide) (List.mem_of_getElem? (i := 217) (by decide +kernel)) (zd_dr dc_De_addSigned 6 rfl)) ?_
  refine zd_ac (ok_iload_n (l := l) (B := B) (y := m_De_addSigned) (pc := 15) (k := 1) rfl (zd_dr dc_De_addSigned 7 rfl)) ?_
  refine zd_ac (ok_icmp_ne (l := l) (B := B) (y := m_De_addSigned) (pc := 16) (zd_dr dc_De_addSigned 8 rfl) (by decide)) ?_
  refine zd_ac (ok_aload_n (l := l) (B := B) (y := m_De_addSigned) (pc := 19) (k := 2) rfl (zd_dr dc_De_addSigned 9 rfl)) ?_
  refine zd_ac (ok_aload_n (l := l) (B := B) (y := m_De_addSigned) (pc := 20) (k := 0) rfl (zd_dr dc_De_addSigned 10 rfl)) ?_
  refine zd_ac (ok_getf (l := l) (B := B) (y := m_De_addSigned) (pc := 21) hG (C := zR0) (T := zT0) (N := 8) (ci := 0) (k := 6) rfl zl0 (by decide) (List.mem_of_getElem? (i := 240) (by decide +kernel)) (zd_dr dc_De_addSigned 11 rfl)) ?_
  refine zd_ac (ok_callv (l := l) (B := B) (y := m_De_addSigned) (pc := 24) hG (ci := 4) rfl cf_De_addSigned_Na_raiseBy rfl (List.mem_of_getElem? (i := 556) (by decide +kernel)) (List.mem_of_getElem? (i := 557) (by decide +kernel)) (List.mem_of_getElem? (i := 558) (by decide +kernel)) (zd_dr dc_De_addSigned 12 rfl)) ?_
  refine zd_ac (ok_goto (l := l) (B := B) (y := m_De_addSigned) (pc := 27) (zd_dr dc_De_addSigned 13 rfl) (by decide)) ?_
  refine zd_ac (ok_aload_n (l := l) (B := B) (y := m_De_addSigned) (pc := 30) (k := 2) rfl (zd_dr dc_De_addSigned 14 rfl)) ?_
  refine zd_ac (ok_aload_n (l := l) (B := B) (y := m_De_addSigned) (pc := 31) (k := 0) rfl (zd_dr dc_De_addSigned 15 rfl)) ?_
  refine zd_ac (ok_getf (l := l) (B := B) (y := m_De_addSigned) (pc := 32) hG (C := zR0) (T := zT0) (N := 8) (ci := 0) (k := 6) rfl zl0 (by decide) (List.mem_of_getElem? (i := 240) (by decide +kernel)) (zd_dr dc_De_addSigned 16 rfl)) ?_
  refine zd_ac (ok_callv (l := l) (B := B) (y := m_De_addSigned) (pc := 35) hG (ci := 4) rfl cf_De_addSigned_Na_order rfl (List.mem_of_getElem? (i := 561) (by decide +kernel)) (List.mem_of_getElem? (i := 562) (by decide +kernel)) (List.mem_of_getElem? (i := 563) (by decide +kernel)) (zd_dr dc_De_addSigned 17 rfl)) ?_
  refine zd_ac (ok_if_lt (l := l) (B := B) (y := m_De_addSigned) (pc := 38) (zd_dr dc_De_addSigned 18 rfl) (by decide)) ?_
  refine zd_ac (ok_aload_n (l := l) (B := B) (y := m_De_addSigned) (pc := 41) (k := 2) rfl (zd_dr dc_De_addSigned 19 rfl)) ?_
  refine zd_ac (ok_aload_n (l := l) (B := B) (y := m_De_addSigned) (pc := 42) (k := 0) rfl (zd_dr dc_De_addSigned 20 rfl)) ?_
  refine zd_ac (ok_getf (l := l) (B := B) (y := m_De_addSigned) (pc := 43) hG (C := zR0) (T := zT0) (N := 8) (ci := 0) (k := 6) rfl zl0 (by decide) (List.mem_of_getElem? (i := 240) (by decide +kernel)) (zd_dr dc_De_addSigned 21 rfl)) ?_
  refine zd_ac (ok_callv (l := l) (B := B) (y := m_De_addSigned) (pc := 46) hG (ci := 4) rfl cf_De_addSigned_Na_lowerBy rfl (List.mem_of_getElem? (i := 568) (by decide +kernel)) (List.mem_of_getElem? (i := 569) (by decide +kernel)) (List.mem_of_getElem? (i := 570) (by decide +kernel)) (zd_dr dc_De_addSigned 22 rfl)) ?_
  refine zd_ac (ok_goto (l := l) (B := B) (y := m_De_addSigned) (pc := 49) (zd_dr dc_De_addSigned 23 rfl) (by decide)) ?_
  refine zd_ac (ok_aload_n (l := l) (B := B) (y := m_De_addSigned) (pc := 52) (k := 0) rfl (zd_dr dc_De_addSigned 24 rfl)) ?_
  refine zd_ac (ok_getf (l := l) (B := B) (y := m_De_addSigned) (pc := 53) hG (C := zR0) (T := zT0) (N := 8) (ci := 0) (k := 6) rfl zl0 (by decide) (List.mem_of_getElem? (i := 240) (by decide +kernel)) (zd_dr dc_De_addSigned 25 rfl)) ?_
  refine zd_ac (ok_aload_n (l := l) (B := B) (y := m_De_addSigned) (pc := 56) (k := 2) rfl (zd_dr dc_De_addSigned 26 rfl)) ?_
  refine zd_ac (ok_callv (l := l) (B := B) (y := m_De_addSigned) (pc := 57) hG (ci := 4) rfl cf_De_addSigned_Na_lowerBy rfl (List.mem_of_getElem? (i := 568) (by decide +kernel)) (List.mem_of_getElem? (i := 569) (by decide +kernel)) (List.mem_of_getElem? (i := 570) (by decide +kernel)) (zd_dr dc_De_addSigned 27 rfl)) ?_
  refine zd_ac (ok_aload_n (l := l) (B := B) (y := m_De_addSigned) (pc := 60) (k := 2) rfl (zd_dr dc_De_addSigned 28 rfl)) ?_
  refine zd_ac (ok_aload_n (l := l) (B := B) (y := m_De_addSigned) (pc := 61) (k := 0) rfl (zd_dr dc_De_addSigned 29 rfl)) ?_
  refine zd_ac (ok_getf (l := l) (B := B) (y := m_De_addSigned) (pc := 62) hG (C := zR0) (T := zT0) (N := 8) (ci := 0) (k := 6) rfl zl0 (by decide) (List.mem_of_getElem? (i := 240) (by decide +kernel)) (zd_dr dc_De_addSigned 30 rfl)) ?_
  refine zd_ac (ok_callv (l := l) (B := B) (y := m_De_addSigned) (pc := 65) hG (ci := 4) rfl cf_De_addSigned_Na_copy rfl (List.mem_of_getElem? (i := 550) (by decide +kernel)) (List.mem_of_getElem? (i := 483) (by decide +kernel)) (List.mem_of_getElem? (i := 484) (by decide +kernel)) (zd_dr dc_De_addSigned 31 rfl)) ?_
  refine zd_ac (ok_aload_n (l := l) (B := B) (y := m_De_addSigned) (pc := 68) (k := 0) rfl (zd_dr dc_De_addSigned 32 rfl)) ?_
  refine zd_ac (ok_getf (l := l) (B := B) (y := m_De_addSigned) (pc := 69) hG (C := zR0) (T := zT0) (N := 8) (ci := 0) (k := 5) rfl zl0 (by decide) (List.mem_of_getElem? (i := 239) (by decide +kernel)) (zd_dr dc_De_addSigned 33 rfl)) ?_
  refine zd_ac (ok_iload_n (l := l) (B := B) (y := m_De_addSigned) (pc := 72) (k := 1) rfl (zd_dr dc_De_addSigned 34 rfl)) ?_
  refine zd_ac (ok_putf (l := l) (B := B) (y := m_De_addSigned) (pc := 73) hG (C := zR6) (T := zT6) (N := 4) (ci := 6) (k := 1) rfl zl6 zt6 (by decide) (List.mem_of_getElem? (i := 217) (by decide +kernel)) rfl (zd_dr dc_De_addSigned 35 rfl)) ?_
  refine zd_ac (ok_vret (l := l) (B := B) (y := m_De_addSigned) (pc := 76) rfl (zd_dr dc_De_addSigned 36 rfl)) ?_
  exact zd_an
def dl_De_divideRough : List (Nat × Instr × Nat) := [(0, .aload_n 0, 1), (1, .getfield 49, 3), (4, .iload_n 2, 1), (5, .invokevirtual 210, 3), (8, .aload_n 0, 1), (9, .getfield 33, 3), (12, .aload_n 0, 1), (13, .getfield 49, 3), (16, .getfield 95, 3), (19, .aload_n 1, 1), (20, .getfield 131, 3), (23, .aload_n 0, 1), (24, .getfield 62, 3), (27, .invokevirtual 182, 3), (30, .aload_n 0, 1), (31, .getfield 49, 3), (34, .aload_n 0, 1), (35, .getfield 49, 3), (38, .getfield 217, 3), (41, .ifCond .ne (16), 3), (44, .aload_n 0, 1), (45, .getfield 49, 3), (48, .getfield 95, 3), (51, .invokevirtual 201, 3), (54, .ifCond .ne (7), 3), (57, .iconst (1), 1), (58, .goto (4), 3), (61, .iconst (0), 1), (62, .putfield 217, 3), (65, .aload_n 0, 1), (66, .getfield 49, 3), (69, .getfield 95, 3), (72, .aload_n 0, 1), (73, .getfield 62, 3), (76, .invokevirtual 175, 3), (79, .aload_n 0, 1), (80, .getfield 49, 3), (83, .aload_n 0, 1), (84, .getfield 49, 3), (87, .getfield 223, 3), (90, .aload_n 1, 1), (91, .getfield 123, 3), (94, .if_icmp .eq (7), 3), (97, .iconst (1), 1), (98, .goto (4), 3), (101, .iconst (0), 1), (102, .putfield 223, 3), (105, .aload_n 0, 1), (106, .getfield 49, 3), (109, .iload_n 2, 1), (110, .aload_n 1, 1), (111, .getfield 136, 3), (114, .isub, 1), (115, .putfield 174, 3), (118, .return_, 1)]
theorem dc_De_divideRough : ∀ q ∈ dl_De_divideRough, decode (zd_yb m_De_divideRough) q.1 = .ok q.2 := by decide +kernel
def cd_De_divideRough (l : Launch) (B : zd_B) : List (Nat × zd_S) := [(0, oc_aload 0 1), (1, oc_getf B 0 5 4), (4, oc_iload 2 5), (5, oc_callv l B 6 m_Ru_cutTo 1 8), (8, oc_aload 0 9), (9, oc_getf B 0 3 12), (12, oc_aload 0 13), (13, oc_getf B 0 5 16), (16, oc_getf B 6 0 19), (19, oc_aload 1 20), (20, oc_getf B 1 0 23), (23, oc_aload 0 24), (24, oc_getf B 0 7 27), (27, oc_callv l B 2 m_Dv_split 3 30), (30, oc_aload 0 31), (31, oc_getf B 0 5 34), (34, oc_aload 0 35), (35, oc_getf B 0 5 38), (38, oc_getf B 6 3 41), (41, oc_if_ne 57 44), (44, oc_aload 0 45), (45, oc_getf B 0 5 48), (48, oc_getf B 6 0 51), (51, oc_callv l B 4 m_Na_isZero 0 54), (54, oc_if_ne 61 57), (57, oc_ci (1) 58), (58, oc_goto 62), (61, oc_ci (0) 62), (62, oc_putf B (zy6 3) 6 3 65), (65, oc_aload 0 66), (66, oc_getf B 0 5 69), (69, oc_getf B 6 0 72), (72, oc_aload 0 73), (73, oc_getf B 0 7 76), (76, oc_callv l B 4 m_Na_copy 1 79), (79, oc_aload 0 80), (80, oc_getf B 0 5 83), (83, oc_aload 0 84), (84, oc_getf B 0 5 87), (87, oc_getf B 6 1 90), (90, oc_aload 1 91), (91, oc_getf B 1 1 94), (94, oc_icmp_eq 101 97), (97, oc_ci (1) 98), (98, oc_goto 102), (101, oc_ci (0) 102), (102, oc_putf B (zy6 1) 6 1 105), (105, oc_aload 0 106), (106, oc_getf B 0 5 109), (109, oc_iload 2 110), (110, oc_aload 1 111), (111, oc_getf B 1 2 114), (114, oc_isub 115), (115, oc_putf B (zy6 2) 6 2 118), (118, oc_vret)]
set_option maxRecDepth 20000 in
theorem ok_De_divideRough {l : Launch} {B : zd_B} (hG : zd_G B) (hl : l.stackTraces = false) : ∀ q ∈ cd_De_divideRough l B, zd_ok l B m_De_divideRough q.1 q.2 := by
  unfold cd_De_divideRough
  refine zd_ac (ok_aload_n (l := l) (B := B) (y := m_De_divideRough) (pc := 0) (k := 0) rfl (zd_dr dc_De_divideRough 0 rfl)) ?_
  refine zd_ac (ok_getf (l := l) (B := B) (y := m_De_divideRough) (pc := 1) hG (C := zR0) (T := zT0) (N := 8) (ci := 0) (k := 5) rfl zl0 (by decide) (List.mem_of_getElem? (i := 239) (by decide +kernel)) (zd_dr dc_De_divideRough 1 rfl)) ?_
  refine zd_ac (ok_iload_n (l := l) (B := B) (y := m_De_divideRough) (pc := 4) (k := 2) rfl (zd_dr dc_De_divideRough 2 rfl)) ?_
  refine zd_ac (ok_callv (l := l) (B := B) (y := m_De_divideRough) (pc := 5) hG (ci := 6) rfl cf_De_divideRough_Ru_cutTo rfl (List.mem_of_getElem? (i := 532) (by decide +kernel)) (List.mem_of_getElem? (i := 533) (by decide +kernel)) (List.mem_of_getElem? (i := 534) (by decide +kernel)) (zd_dr dc_De_divideRough 3 rfl)) ?_
  refine zd_ac (ok_aload_n (l := l) (B := B) (y := m_De_divideRough) (pc := 8) (k := 0) rfl (zd_dr dc_De_divideRough 4 rfl)) ?_
  refine zd_ac (ok_getf (l := l) (B := B) (y := m_De_divideRough) (pc := 9) hG (C := zR0) (T := zT0) (N := 8) (ci := 0) (k := 3) rfl zl0 (by decide) (List.mem_of_getElem? (i := 237) (by decide +kernel)) (zd_dr dc_De_divideRough 5 rfl)) ?_
  refine zd_ac (ok_aload_n (l := l) (B := B) (y := m_De_divideRough) (pc := 12) (k := 0) rfl (zd_dr dc_De_divideRough 6 rfl)) ?_
  refine zd_ac (ok_getf (l := l) (B := B) (y := m_De_divideRough) (pc := 13) hG (C := zR0) (T := zT0) (N := 8) (ci := 0) (k := 5) rfl zl0 (by decide) (List.mem_of_getElem? (i := 239) (by decide +kernel)) (zd_dr dc_De_divideRough 7 rfl)) ?_
  refine zd_ac (ok_getf (l := l) (B := B) (y := m_De_divideRough) (pc := 16) hG (C := zR6) (T := zT6) (N := 4) (ci := 6) (k := 0) rfl zl6 (by decide) (List.mem_of_getElem? (i := 214) (by decide +kernel)) (zd_dr dc_De_divideRough 8 rfl)) ?_
  refine zd_ac (ok_aload_n (l := l) (B := B) (y := m_De_divideRough) (pc := 19) (k := 1) rfl (zd_dr dc_De_divideRough 9 rfl)) ?_
  refine zd_ac (ok_getf (l := l) (B := B) (y := m_De_divideRough) (pc := 20) hG (C := zR1) (T := zT1) (N := 3) (ci := 1) (k := 0) rfl zl1 (by decide) (List.mem_of_getElem? (i := 110) (by decide +kernel)) (zd_dr dc_De_divideRough 10 rfl)) ?_
  refine zd_ac (ok_aload_n (l := l) (B := B) (y := m_De_divideRough) (pc := 23) (k := 0) rfl (zd_dr dc_De_divideRough 11 rfl)) ?_
  refine zd_ac (ok_getf (l := l) (B := B) (y := m_De_divideRough) (pc := 24) hG (C := zR0) (T := zT0) (N := 8) (ci := 0) (k := 7) rfl zl0 (by decide) (List.mem_of_getElem? (i := 241) (by decide +kernel)) (zd_dr dc_De_divideRough 12 rfl)) ?_
  refine zd_ac (ok_callv (l := l) (B := B) (y := m_De_divideRough) (pc := 27) hG (ci := 2) rfl cf_De_divideRough_Dv_split rfl (List.mem_of_getElem? (i := 607) (by decide +kernel)) (List.mem_of_getElem? (i := 608) (by decide +kernel)) (List.mem_of_getElem? (i := 609) (by decide +kernel)) (zd_dr dc_De_divideRough 13 rfl)) ?_
  refine zd_ac (ok_aload_n (l := l) (B := B) (y := m_De_divideRough) (pc := 30) (k := 0) rfl (zd_dr dc_De_divideRough 14 rfl)) ?_
  refine zd_ac (ok_getf (l := l) (B := B) (y := m_De_divideRough) (pc := 31) hG (C := zR0) (T := zT0) (N := 8) (ci := 0) (k := 5) rfl zl0 (by decide) (List.mem_of_getElem? (i := 239) (by decide +kernel)) (zd_dr dc_De_divideRough 15 rfl)) ?_
  refine zd_ac (ok_aload_n (l := l) (B := B) (y := m_De_divideRough) (pc := 34) (k := 0) rfl (zd_dr dc_De_divideRough 16 rfl)) ?_
  refine zd_ac (ok_getf (l := l) (B := B) (y := m_De_divideRough) (pc := 35) hG (C := zR0) (T := zT0) (N := 8) (ci := 0) (k := 5) rfl zl0 (by decide) (List.mem_of_getElem? (i := 239) (by decide +kernel)) (zd_dr dc_De_divideRough 17 rfl)) ?_
  refine zd_ac (ok_getf (l := l) (B := B) (y := m_De_divideRough) (pc := 38) hG (C := zR6) (T := zT6) (N := 4) (ci := 6) (k := 3) rfl zl6 (by decide) (List.mem_of_getElem? (i := 222) (by decide +kernel)) (zd_dr dc_De_divideRough 18 rfl)) ?_
  refine zd_ac (ok_if_ne (l := l) (B := B) (y := m_De_divideRough) (pc := 41) (zd_dr dc_De_divideRough 19 rfl) (by decide)) ?_
  refine zd_ac (ok_aload_n (l := l) (B := B) (y := m_De_divideRough) (pc := 44) (k := 0) rfl (zd_dr dc_De_divideRough 20 rfl)) ?_
  refine zd_ac (ok_getf (l := l) (B := B) (y := m_De_divideRough) (pc := 45) hG (C := zR0) (T := zT0) (N := 8) (ci := 0) (k := 5) rfl zl0 (by decide) (List.mem_of_getElem? (i := 239) (by decide +kernel)) (zd_dr dc_De_divideRough 21 rfl)) ?_
  refine zd_ac (ok_getf (l := l) (B := B) (y := m_De_divideRough) (pc := 48) hG (C := zR6) (T := zT6) (N := 4) (ci := 6) (k := 0) rfl zl6 (by decide) (List.mem_of_getElem? (i := 214) (by decide +kernel)) (zd_dr dc_De_divideRough 22 rfl)) ?_
  refine zd_ac (ok_callv (l := l) (B := B) (y := m_De_divideRough) (pc := 51) hG (ci := 4) rfl cf_De_divideRough_Na_isZero rfl (List.mem_of_getElem? (i := 601) (by decide +kernel)) (List.mem_of_getElem? (i := 490) (by decide +kernel)) (List.mem_of_getElem? (i := 491) (by decide +kernel)) (zd_dr dc_De_divideRough 23 rfl)) ?_
  refine zd_ac (ok_if_ne (l := l) (B := B) (y := m_De_divideRough) (pc := 54) (zd_dr dc_De_divideRough 24 rfl) (by decide)) ?_
  refine zd_ac (ok_iconst (l := l) (B := B) (y := m_De_divideRough) (pc := 57) (n := (1)) (zd_dr dc_De_divideRough 25 rfl) rfl) ?_
  refine zd_ac (ok_goto (l := l) (B := B) (y := m_De_divideRough) (pc := 58) (zd_dr dc_De_divideRough 26 rfl) (by decide)) ?_
  refine zd_ac (ok_iconst (l := l) (B := B) (y := m_De_divideRough) (pc := 61) (n := (0)) (zd_dr dc_De_divideRough 27 rfl) rfl) ?_
  refine zd_ac (ok_putf (l := l) (B := B) (y := m_De_divideRough) (pc := 62) hG (C := zR6) (T := zT6) (N := 4) (ci := 6) (k := 3) rfl zl6 zt6 (by decide) (List.mem_of_getElem? (i := 222) (by decide +kernel)) rfl (zd_dr dc_De_divideRough 28 rfl)) ?_
  refine zd_ac (ok_aload_n (l := l) (B := B) (y := m_De_divideRough) (pc := 65) (k := 0) rfl (zd_dr dc_De_divideRough 29 rfl)) ?_
  refine zd_ac (ok_getf (l := l) (B := B) (y := m_De_divideRough) (pc := 66) hG (C := zR0) (T := zT0) (N := 8) (ci := 0) (k := 5) rfl zl0 (by decide) (List.mem_of_getElem? (i := 239) (by decide +kernel)) (zd_dr dc_De_divideRough 30 rfl)) ?_
  refine zd_ac (ok_getf (l := l) (B := B) (y := m_De_divideRough) (pc := 69) hG (C := zR6) (T := zT6) (N := 4) (ci := 6) (k := 0) rfl zl6 (by decide) (List.mem_of_getElem? (i := 214) (by decide +kernel)) (zd_dr dc_De_divideRough 31 rfl)) ?_
  refine zd_ac (ok_aload_n (l := l) (B := B) (y := m_De_divideRough) (pc := 72) (k := 0) rfl (zd_dr dc_De_divideRough 32 rfl)) ?_
  refine zd_ac (ok_getf (l := l) (B := B) (y := m_De_divideRough) (pc := 73) hG (C := zR0) (T := zT0) (N := 8) (ci := 0) (k := 7) rfl zl0 (by decide) (List.mem_of_getElem? (i := 241) (by decide +kernel)) (zd_dr dc_De_divideRough 33 rfl)) ?_
  refine zd_ac (ok_callv (l := l) (B := B) (y := m_De_divideRough) (pc := 76) hG (ci := 4) rfl cf_De_divideRough_Na_copy rfl (List.mem_of_getElem? (i := 550) (by decide +kernel)) (List.mem_of_getElem? (i := 483) (by decide +kernel)) (List.mem_of_getElem? (i := 484) (by decide +kernel)) (zd_dr dc_De_divideRough 34 rfl)) ?_
  refine zd_ac (ok_aload_n (l := l) (B := B) (y := m_De_divideRough) (pc := 79) (k := 0) rfl (zd_dr dc_De_divideRough 35 rfl)) ?_
  refine zd_ac (ok_getf (l := l) (B := B) (y := m_De_divideRough) (pc := 80) hG (C := zR0) (T := zT0) (N := 8) (ci := 0) (k := 5) rfl zl0 (by decide) (List.mem_of_getElem? (i := 239) (by decide +kernel)) (zd_dr dc_De_divideRough 36 rfl)) ?_
  refine zd_ac (ok_aload_n (l := l) (B := B) (y := m_De_divideRough) (pc := 83) (k := 0) rfl (zd_dr dc_De_divideRough 37 rfl)) ?_
  refine zd_ac (ok_getf (l := l) (B := B) (y := m_De_divideRough) (pc := 84) hG (C := zR0) (T := zT0) (N := 8) (ci := 0) (k := 5) rfl zl0 (by decide) (List.mem_of_getElem? (i := 239) (by decide +kernel)) (zd_dr dc_De_divideRough 38 rfl)) ?_
  refine zd_ac (ok_getf (l := l) (B := B) (y := m_De_divideRough) (pc := 87) hG (C := zR6) (T := zT6) (N := 4) (ci := 6) (k := 1) rfl zl6 (by decide) (List.mem_of_getElem? (i := 217) (by decide +kernel)) (zd_dr dc_De_divideRough 39 rfl)) ?_
  refine zd_ac (ok_aload_n (l := l) (B := B) (y := m_De_divideRough) (pc := 90) (k := 1) rfl (zd_dr dc_De_divideRough 40 rfl)) ?_
  refine zd_ac (ok_getf (l := l) (B := B) (y := m_De_divideRough) (pc := 91) hG (C := zR1) (T := zT1) (N := 3) (ci := 1) (k := 1) rfl zl1 (by decide) (List.mem_of_getElem? (i := 114) (by decide +kernel)) (zd_dr dc_De_divideRough 41 rfl)) ?_
  refine zd_ac (ok_icmp_eq (l := l) (B := B) (y := m_De_divideRough) (pc := 94) (zd_dr dc_De_divideRough 42 rfl) (by decide)) ?_
  refine zd_ac (ok_iconst (l := l) (B := B) (y := m_De_divideRough) (pc := 97) (n := (1)) (zd_dr dc_De_divideRough 43 rfl) rfl) ?_
  refine zd_ac (ok_goto (l := l) (B := B) (y := m_De_divideRough) (pc := 98) (zd_dr dc_De_divideRough 44 rfl) (by decide)) ?_
  refine zd_ac (ok_iconst (l := l) (B := B) (y := m_De_divideRough) (pc := 101) (n := (0)) (zd_dr dc_De_divideRough 45 rfl) rfl) ?_
  refine zd_ac (ok_putf (l := l) (B := B) (y := m_De_divideRough) (pc := 102) hG (C := zR6) (T := zT6) (N := 4) (ci := 6) (k := 1) rfl zl6 zt6 (by decide) (List.mem_of_getElem? (i := 217) (by decide +kernel)) rfl (zd_dr dc_De_divideRough 46 rfl)) ?_
  refine zd_ac (ok_aload_n (l := l) (B := B) (y := m_De_divideRough) (pc := 105) (k := 0) rfl (zd_dr dc_De_divideRough 47 rfl)) ?_
  refine zd_ac (ok_getf (l := l) (B := B) (y := m_De_divideRough) (pc := 106) hG (C := zR0) (T := zT0) (N := 8) (ci := 0) (k := 5) rfl zl0 (by decide) (List.mem_of_getElem? (i := 239) (by decide +kernel)) (zd_dr dc_De_divideRough 48 rfl)) ?_
  refine zd_ac (ok_iload_n (l := l) (B := B) (y := m_De_divideRough) (pc := 109) (k := 2) rfl (zd_dr dc_De_divideRough 49 rfl)) ?_
  refine zd_ac (ok_aload_n (l := l) (B := B) (y := m_De_divideRough) (pc := 110) (k := 1) rfl (zd_dr dc_De_divideRough 50 rfl)) ?_
  refine zd_ac (ok_getf (l := l) (B := B) (y := m_De_divideRough) (pc := 111) hG (C := zR1) (T := zT1) (N := 3) (ci := 1) (k := 2) rfl zl1 (by decide) (List.mem_of_getElem? (i := 118) (by decide +kernel)) (zd_dr dc_De_divideRough 51 rfl)) ?_
  refine zd_ac (ok_isub (l := l) (B := B) (y := m_De_divideRough) (pc := 114) (zd_dr dc_De_divideRough 52 rfl)) ?_
  refine zd_ac (ok_putf (l := l) (B := B) (y := m_De_divideRough) (pc := 115) hG (C := zR6) (T := zT6) (N := 4) (ci := 6) (k := 2) rfl zl6 zt6 (by decide) (List.mem_of_getElem? (i := 220) (by decide +kernel)) rfl (zd_dr dc_De_divideRough 53 rfl)) ?_
  refine zd_ac (ok_vret (l := l) (B := B) (y := m_De_divideRough) (pc := 118) rfl (zd_dr dc_De_divideRough 54 rfl)) ?_
  exact zd_an
def dl_De_reduceRaised : List (Nat × Instr × Nat) := [(0, .iload_n 2, 1), (1, .istore_n 3, 1), (2, .iload_n 3, 1), (3, .ifCond .le (49), 3), (6, .aload_n 0, 1), (7, .getfield 49, 3), (10, .getfield 95, 3), (13, .iload_n 3, 1), (14, .sipush (1000), 3), (17, .invokestatic 296, 3), (20, .invokevirtual 178, 3), (23, .pop, 1), (24, .aload_n 0, 1), (25, .getfield 33, 3), (28, .aload_n 0, 1), (29, .getfield 49, 3), (32, .getfield 95, 3), (35, .aload_n 1, 1), (36, .aload_n 0, 1), (37, .getfield 62, 3), (40, .invokevirtual 182, 3), (43, .iinc 3 (-1000), 6), (49, .goto (-47), 3), (52, .return_, 1)]
theorem dc_De_reduceRaised : ∀ q ∈ dl_De_reduceRaised, decode (zd_yb m_De_reduceRaised) q.1 = .ok q.2 := by decide +kernel
def cd_De_reduceRaised (l : Launch) (B : zd_B) : List (Nat × zd_S) := [(0, oc_iload 2 1), (1, oc_istore 3 2), (2, oc_iload 3 3), (3, oc_if_le 52 6), (6, oc_aload 0 7), (7, oc_getf B 0 5 10), (10, oc_getf B 6 0 13), (13, oc_iload 3 14), (14, oc_ci (1000) 17), (17, oc_calls l B m_Ma_min 2 20), (20, oc_callv l B 4 m_Na_move 1 23), (23, oc_pop 24), (24, oc_aload 0 25), (25, oc_getf B 0 3 28), (28, oc_aload 0 29), (29, oc_getf B 0 5 32), (32, oc_getf B 6 0 35), (35, oc_aload 1 36), (36, oc_aload 0 37), (37, oc_getf B 0 7 40), (40, oc_callv l B 2 m_Dv_split 3 43), (43, oc_iinc 3 (-1000) 49), (49, oc_goto 2), (52, oc_vret)]
set_option maxRecDepth 20000 in
theorem ok_De_reduceRaised {l : Launch} {B : zd_B} (hG : zd_G B) (hl : l.stackTraces = false) : ∀ q ∈ cd_De_reduceRaised l B, zd_ok l B m_De_reduceRaised q.1 q.2 := by
  unfold cd_De_reduceRaised
  refine zd_ac (ok_iload_n (l := l) (B := B) (y := m_De_reduceRaised) (pc := 0) (k := 2) rfl (zd_dr dc_De_reduceRaised 0 rfl)) ?_
  refine zd_ac (ok_istore_n (l := l) (B := B) (y := m_De_reduceRaised) (pc := 1) (k := 3) rfl (zd_dr dc_De_reduceRaised 1 rfl) (by decide)) ?_
  refine zd_ac (ok_iload_n (l := l) (B := B) (y := m_De_reduceRaised) (pc := 2) (k := 3) rfl (zd_dr dc_De_reduceRaised 2 rfl)) ?_
  refine zd_ac (ok_if_le (l := l) (B := B) (y := m_De_reduceRaised) (pc := 3) (zd_dr dc_De_reduceRaised 3 rfl) (by decide)) ?_
  refine zd_ac (ok_aload_n (l := l) (B := B) (y := m_De_reduceRaised) (pc := 6) (k := 0) rfl (zd_dr dc_De_reduceRaised 4 rfl)) ?_
  refine zd_ac (ok_getf (l := l) (B := B) (y := m_De_reduceRaised) (pc := 7) hG (C := zR0) (T := zT0) (N := 8) (ci := 0) (k := 5) rfl zl0 (by decide) (List.mem_of_getElem? (i := 239) (by decide +kernel)) (zd_dr dc_De_reduceRaised 5 rfl)) ?_
  refine zd_ac (ok_getf (l := l) (B := B) (y := m_De_reduceRaised) (pc := 10) hG (C := zR6) (T := zT6) (N := 4) (ci := 6) (k := 0) rfl zl6 (by decide) (List.mem_of_getElem? (i := 214) (by decide +kernel)) (zd_dr dc_De_reduceRaised 6 rfl)) ?_
  refine zd_ac (ok_iload_n (l := l) (B := B) (y := m_De_reduceRaised) (pc := 13) (k := 3) rfl (zd_dr dc_De_reduceRaised 7 rfl)) ?_
  refine zd_ac (ok_sipush (l := l) (B := B) (y := m_De_reduceRaised) (pc := 14) (n := (1000)) (zd_dr dc_De_reduceRaised 8 rfl) rfl) ?_
  refine zd_ac (ok_calls (l := l) (B := B) (y := m_De_reduceRaised) (pc := 17) hG cf_De_reduceRaised_Ma_min rfl (List.mem_of_getElem? (i := 701) (by decide +kernel)) (List.mem_of_getElem? (i := 688) (by decide +kernel)) (List.mem_of_getElem? (i := 72) (by decide +kernel)) (zd_dr dc_De_reduceRaised 9 rfl)) ?_
  refine zd_ac (ok_callv (l := l) (B := B) (y := m_De_reduceRaised) (pc := 20) hG (ci := 4) rfl cf_De_reduceRaised_Na_move rfl (List.mem_of_getElem? (i := 551) (by decide +kernel)) (List.mem_of_getElem? (i := 537) (by decide +kernel)) (List.mem_of_getElem? (i := 538) (by decide +kernel)) (zd_dr dc_De_reduceRaised 10 rfl)) ?_
  refine zd_ac (ok_pop (l := l) (B := B) (y := m_De_reduceRaised) (pc := 23) (zd_dr dc_De_reduceRaised 11 rfl)) ?_
  refine zd_ac (ok_aload_n (l := l) (B := B) (y := m_De_reduceRaised) (pc := 24) (k := 0) rfl (zd_dr dc_De_reduceRaised 12 rfl)) ?_
  refine zd_ac (ok_getf (l := l) (B := B) (y := m_De_reduceRaised) (pc := 25) hG (C := zR0) (T := zT0) (N := 8) (ci := 0) (k := 3) rfl zl0 (by decide) (List.mem_of_getElem? (i := 237) (by decide +kernel)) (zd_dr dc_De_reduceRaised 13 rfl)) ?_
  refine zd_ac (ok_aload_n (l := l) (B := B) (y := m_De_reduceRaised) (pc := 28) (k := 0) rfl (zd_dr dc_De_reduceRaised 14 rfl)) ?_
  refine zd_ac (ok_getf (l := l) (B := B) (y := m_De_reduceRaised) (pc := 29) hG (C := zR0) (T := zT0) (N := 8) (ci := 0) (k := 5) rfl zl0 (by decide) (List.mem_of_getElem? (i := 239) (by decide +kernel)) (zd_dr dc_De_reduceRaised 15 rfl)) ?_
  refine zd_ac (ok_getf (l := l) (B := B) (y := m_De_reduceRaised) (pc := 32) hG (C := zR6) (T := zT6) (N := 4) (ci := 6) (k := 0) rfl zl6 (by decide) (List.mem_of_getElem? (i := 214) (by decide +kernel)) (zd_dr dc_De_reduceRaised 16 rfl)) ?_
  refine zd_ac (ok_aload_n (l := l) (B := B) (y := m_De_reduceRaised) (pc := 35) (k := 1) rfl (zd_dr dc_De_reduceRaised 17 rfl)) ?_
  refine zd_ac (ok_aload_n (l := l) (B := B) (y := m_De_reduceRaised) (pc := 36) (k := 0) rfl (zd_dr dc_De_reduceRaised 18 rfl)) ?_
  refine zd_ac (ok_getf (l := l) (B := B) (y := m_De_reduceRaised) (pc := 37) hG (C := zR0) (T := zT0) (N := 8) (ci := 0) (k := 7) rfl zl0 (by decide) (List.mem_of_getElem? (i := 241) (by decide +kernel)) (zd_dr dc_De_reduceRaised 19 rfl)) ?_
  refine zd_ac (ok_callv (l := l) (B := B) (y := m_De_reduceRaised) (pc := 40) hG (ci := 2) rfl cf_De_reduceRaised_Dv_split rfl (List.mem_of_getElem? (i := 607) (by decide +kernel)) (List.mem_of_getElem? (i := 608) (by decide +kernel)) (List.mem_of_getElem? (i := 609) (by decide +kernel)) (zd_dr dc_De_reduceRaised 20 rfl)) ?_
  refine zd_ac (ok_iincW (l := l) (B := B) (y := m_De_reduceRaised) (pc := 43) (zd_dr dc_De_reduceRaised 21 rfl) (by decide) rfl) ?_
  refine zd_ac (ok_goto (l := l) (B := B) (y := m_De_reduceRaised) (pc := 49) (zd_dr dc_De_reduceRaised 22 rfl) (by decide)) ?_
  refine zd_ac (ok_vret (l := l) (B := B) (y := m_De_reduceRaised) (pc := 52) rfl (zd_dr dc_De_reduceRaised 23 rfl)) ?_
  exact zd_an
def dl_De_growRough : List (Nat × Instr × Nat) := [(0, .aload_n 0, 1), (1, .getfield 62, 3), (4, .aload_n 0, 1), (5, .getfield 49, 3), (8, .getfield 95, 3), (11, .aload_n 1, 1), (12, .invokevirtual 132, 3), (15, .aload_n 0, 1), (16, .getfield 62, 3), (19, .invokestatic 276, 3), (22, .aload_n 0, 1), (23, .getfield 49, 3), (26, .getfield 95, 3), (29, .aload_n 0, 1), (30, .getfield 62, 3), (33, .invokevirtual 175, 3), (36, .return_, 1)]
theorem dc_De_growRough : ∀ q ∈ dl_De_growRough, decode (zd_yb m_De_growRough) q.1 = .ok q.2 := by decide +kernel
def cd_De_growRough (l : Launch) (B : zd_B) : List (Nat × zd_S) := [(0, oc_aload 0 1), (1, oc_getf B 0 7 4), (4, oc_aload 0 5), (5, oc_getf B 0 5 8), (8, oc_getf B 6 0 11), (11, oc_aload 1 12), (12, oc_callv l B 4 m_Na_becomeProduct 2 15), (15, oc_aload 0 16), (16, oc_getf B 0 7 19), (19, oc_calls l B m_De_demandDigits 1 22), (22, oc_aload 0 23), (23, oc_getf B 0 5 26), (26, oc_getf B 6 0 29), (29, oc_aload 0 30), (30, oc_getf B 0 7 33), (33, oc_callv l B 4 m_Na_copy 1 36), (36, oc_vret)]
set_option maxRecDepth 20000 in
theorem ok_De_growRough {l : Launch} {B : zd_B} (hG : zd_G B) (hl : l.stackTraces = false) : ∀ q ∈ cd_De_growRough l B, zd_ok l B m_De_growRough q.1 q.2 := by
  unfold cd_De_growRough
  refine zd_ac (ok_aload_n (l := l) (B := B) (y := m_De_growRough) (pc := 0) (k := 0) rfl (zd_dr dc_De_growRough 0 rfl)) ?_
  refine zd_ac (ok_getf (l := l) (B := B) (y := m_De_growRough) (pc := 1) hG (C := zR0) (T := zT0) (N := 8) (ci := 0) (k := 7) rfl zl0 (by decide) (List.mem_of_getElem? (i := 241) (by decide +kernel)) (zd_dr dc_De_growRough 1 rfl)) ?_
  refine zd_ac (ok_aload_n (l := l) (B := B) (y := m_De_growRough) (pc := 4) (k := 0) rfl (zd_dr dc_De_growRough 2 rfl)) ?_
  refine zd_ac (ok_getf (l := l) (B := B) (y := m_De_growRough) (pc := 5) hG (C := zR0) (T := zT0) (N := 8) (ci := 0) (k := 5) rfl zl0 (by decide) (List.mem_of_getElem? (i := 239) (by decide +kernel)) (zd_dr dc_De_growRough 3 rfl)) ?_
  refine zd_ac (ok_getf (l := l) (B := B) (y := m_De_growRough) (pc := 8) hG (C := zR6) (T := zT6) (N := 4) (ci := 6) (k := 0) rfl zl6 (by decide) (List.mem_of_getElem? (i := 214) (by decide +kernel)) (zd_dr dc_De_growRough 4 rfl)) ?_
  refine zd_ac (ok_aload_n (l := l) (B := B) (y := m_De_growRough) (pc := 11) (k := 1) rfl (zd_dr dc_De_growRough 5 rfl)) ?_
  refine zd_ac (ok_callv (l := l) (B := B) (y := m_De_growRough) (pc := 12) hG (ci := 4) rfl cf_De_growRough_Na_becomeProduct rfl (List.mem_of_getElem? (i := 579) (by decide +kernel)) (List.mem_of_getElem? (i := 580) (by decide +kernel)) (List.mem_of_getElem? (i := 581) (by decide +kernel)) (zd_dr dc_De_growRough 6 rfl)) ?_
  refine zd_ac (ok_aload_n (l := l) (B := B) (y := m_De_growRough) (pc := 15) (k := 0) rfl (zd_dr dc_De_growRough 7 rfl)) ?_
  refine zd_ac (ok_getf (l := l) (B := B) (y := m_De_growRough) (pc := 16) hG (C := zR0) (T := zT0) (N := 8) (ci := 0) (k := 7) rfl zl0 (by decide) (List.mem_of_getElem? (i := 241) (by decide +kernel)) (zd_dr dc_De_growRough 8 rfl)) ?_
  refine zd_ac (ok_calls (l := l) (B := B) (y := m_De_growRough) (pc := 19) hG cf_De_growRough_De_demandDigits rfl (List.mem_of_getElem? (i := 470) (by decide +kernel)) (List.mem_of_getElem? (i := 471) (by decide +kernel)) (List.mem_of_getElem? (i := 56) (by decide +kernel)) (zd_dr dc_De_growRough 9 rfl)) ?_
  refine zd_ac (ok_aload_n (l := l) (B := B) (y := m_De_growRough) (pc := 22) (k := 0) rfl (zd_dr dc_De_growRough 10 rfl)) ?_
  refine zd_ac (ok_getf (l := l) (B := B) (y := m_De_growRough) (pc := 23) hG (C := zR0) (T := zT0) (N := 8) (ci := 0) (k := 5) rfl zl0 (by decide) (List.mem_of_getElem? (i := 239) (by decide +kernel)) (zd_dr dc_De_growRough 11 rfl)) ?_
  refine zd_ac (ok_getf (l := l) (B := B) (y := m_De_growRough) (pc := 26) hG (C := zR6) (T := zT6) (N := 4) (ci := 6) (k := 0) rfl zl6 (by decide) (List.mem_of_getElem? (i := 214) (by decide +kernel)) (zd_dr dc_De_growRough 12 rfl)) ?_
  refine zd_ac (ok_aload_n (l := l) (B := B) (y := m_De_growRough) (pc := 29) (k := 0) rfl (zd_dr dc_De_growRough 13 rfl)) ?_
  refine zd_ac (ok_getf (l := l) (B := B) (y := m_De_growRough) (pc := 30) hG (C := zR0) (T := zT0) (N := 8) (ci := 0) (k := 7) rfl zl0 (by decide) (List.mem_of_getElem? (i := 241) (by decide +kernel)) (zd_dr dc_De_growRough 14 rfl)) ?_
  refine zd_ac (ok_callv (l := l) (B := B) (y := m_De_growRough) (pc := 33) hG (ci := 4) rfl cf_De_growRough_Na_copy rfl (List.mem_of_getElem? (i := 550) (by decide +kernel)) (List.mem_of_getElem? (i := 483) (by decide +kernel)) (List.mem_of_getElem? (i := 484) (by decide +kernel)) (zd_dr dc_De_growRough 15 rfl)) ?_
  refine zd_ac (ok_vret (l := l) (B := B) (y := m_De_growRough) (pc := 36) rfl (zd_dr dc_De_growRough 16 rfl)) ?_
  exact zd_an
def dl_De_orderOfSizes : List (Nat × Instr × Nat) := [(0, .aload_n 1, 1), (1, .getfield 131, 3), (4, .invokevirtual 164, 3), (7, .aload_n 1, 1), (8, .getfield 136, 3), (11, .isub, 1), (12, .istore_n 3, 1), (13, .aload_n 2, 1), (14, .getfield 131, 3), (17, .invokevirtual 164, 3), (20, .aload_n 2, 1), (21, .getfield 136, 3), (24, .isub, 1), (25, .istore 4, 2), (27, .iload_n 3, 1), (28, .iload 4, 2), (30, .if_icmp .eq (10), 3), (33, .iload_n 3, 1), (34, .iload 4, 2), (36, .invokestatic 227, 3), (39, .ireturn, 1), (40, .aload_n 0, 1), (41, .aload_n 1, 1), (42, .aload_n 2, 1), (43, .invokevirtual 119, 3), (46, .aload_n 0, 1), (47, .getfield 49, 3), (50, .getfield 95, 3), (53, .aload_n 0, 1), (54, .getfield 58, 3), (57, .invokevirtual 289, 3), (60, .ireturn, 1)]
theorem dc_De_orderOfSizes : ∀ q ∈ dl_De_orderOfSizes, decode (zd_yb m_De_orderOfSizes) q.1 = .ok q.2 := by decide +kernel
def cd_De_orderOfSizes (l : Launch) (B : zd_B) : List (Nat × zd_S) := [(0, oc_aload 1 1), (1, oc_getf B 1 0 4), (4, oc_callv l B 4 m_Na_digits 0 7), (7, oc_aload 1 8), (8, oc_getf B 1 2 11), (11, oc_isub 12), (12, oc_istore 3 13), (13, oc_aload 2 14), (14, oc_getf B 1 0 17), (17, oc_callv l B 4 m_Na_digits 0 20), (20, oc_aload 2 21), (21, oc_getf B 1 2 24), (24, oc_isub 25), (25, oc_istore 4 27), (27, oc_iload 3 28), (28, oc_iload 4 30), (30, oc_icmp_eq 40 33), (33, oc_iload 3 34), (34, oc_iload 4 36), (36, oc_calls l B m_In_compare 2 39), (39, oc_iret .int), (40, oc_aload 0 41), (41, oc_aload 1 42), (42, oc_aload 2 43), (43, oc_callv l B 0 m_De_align 2 46), (46, oc_aload 0 47), (47, oc_getf B 0 5 50), (50, oc_getf B 6 0 53), (53, oc_aload 0 54), (54, oc_getf B 0 6 57), (57, oc_callv l B 4 m_Na_order 1 60), (60, oc_iret .int)]
set_option maxRecDepth 20000 in
theorem ok_De_orderOfSizes {l : Launch} {B : zd_B} (hG : zd_G B) (hl : l.stackTraces = false) : ∀ q ∈ cd_De_orderOfSizes l B, zd_ok l B m_De_orderOfSizes q.1 q.2 := by
  unfold cd_De_orderOfSizes
  refine zd_ac (ok_aload_n (l := l) (B := B) (y := m_De_orderOfSizes) (pc := 0) (k := 1) rfl (zd_dr dc_De_orderOfSizes 0 rfl)) ?_
  refine zd_ac (ok_getf (l := l) (B := B) (y := m_De_orderOfSizes) (pc := 1) hG (C := zR1) (T := zT1) (N := 3) (ci := 1) (k := 0) rfl zl1 (by decide) (List.mem_of_getElem? (i := 110) (by decide +kernel)) (zd_dr dc_De_orderOfSizes 1 rfl)) ?_
  refine zd_ac (ok_callv (l := l) (B := B) (y := m_De_orderOfSizes) (pc := 4) hG (ci := 4) rfl cf_De_orderOfSizes_Na_digits rfl (List.mem_of_getElem? (i := 473) (by decide +kernel)) (List.mem_of_getElem? (i := 474) (by decide +kernel)) (List.mem_of_getElem? (i := 475) (by decide +kernel)) (zd_dr dc_De_orderOfSizes 2 rfl)) ?_
  refine zd_ac (ok_aload_n (l := l) (B := B) (y := m_De_orderOfSizes) (pc := 7) (k := 1) rfl (zd_dr dc_De_orderOfSizes 3 rfl)) ?_
  refine zd_ac (ok_getf (l := l) (B := B) (y := m_De_orderOfSizes) (pc := 8) hG (C := zR1) (T := zT1) (N := 3) (ci := 1) (k := 2) rfl zl1 (by decide) (List.mem_of_getElem? (i := 118) (by decide +kernel)) (zd_dr dc_De_orderOfSizes 4 rfl)) ?_
  refine zd_ac (ok_isub (l := l) (B := B) (y := m_De_orderOfSizes) (pc := 11) (zd_dr dc_De_orderOfSizes 5 rfl)) ?_
  refine zd_ac (ok_istore_n (l := l) (B := B) (y := m_De_orderOfSizes) (pc := 12) (k := 3) rfl (zd_dr dc_De_orderOfSizes 6 rfl) (by decide)) ?_
  refine zd_ac (ok_aload_n (l := l) (B := B) (y := m_De_orderOfSizes) (pc := 13) (k := 2) rfl (zd_dr dc_De_orderOfSizes 7 rfl)) ?_
  refine zd_ac (ok_getf (l := l) (B := B) (y := m_De_orderOfSizes) (pc := 14) hG (C := zR1) (T := zT1) (N := 3) (ci := 1) (k := 0) rfl zl1 (by decide) (List.mem_of_getElem? (i := 110) (by decide +kernel)) (zd_dr dc_De_orderOfSizes 8 rfl)) ?_
  refine zd_ac (ok_callv (l := l) (B := B) (y := m_De_orderOfSizes) (pc := 17) hG (ci := 4) rfl cf_De_orderOfSizes_Na_digits rfl (List.mem_of_getElem? (i := 473) (by decide +kernel)) (List.mem_of_getElem? (i := 474) (by decide +kernel)) (List.mem_of_getElem? (i := 475) (by decide +kernel)) (zd_dr dc_De_orderOfSizes 9 rfl)) ?_
  refine zd_ac (ok_aload_n (l := l) (B := B) (y := m_De_orderOfSizes) (pc := 20) (k := 2) rfl (zd_dr dc_De_orderOfSizes 10 rfl)) ?_
  refine zd_ac (ok_getf (l := l) (B := B) (y := m_De_orderOfSizes) (pc := 21) hG (C := zR1) (T := zT1) (N := 3) (ci := 1) (k := 2) rfl zl1 (by decide) (List.mem_of_getElem? (i := 118) (by decide +kernel)) (zd_dr dc_De_orderOfSizes 11 rfl)) ?_
  refine zd_ac (ok_isub (l := l) (B := B) (y := m_De_orderOfSizes) (pc := 24) (zd_dr dc_De_orderOfSizes 12 rfl)) ?_
  refine zd_ac (ok_istore (l := l) (B := B) (y := m_De_orderOfSizes) (pc := 25) (zd_dr dc_De_orderOfSizes 13 rfl) (by decide)) ?_
  refine zd_ac (ok_iload_n (l := l) (B := B) (y := m_De_orderOfSizes) (pc := 27) (k := 3) rfl (zd_dr dc_De_orderOfSizes 14 rfl)) ?_
  refine zd_ac (ok_iload (l := l) (B := B) (y := m_De_orderOfSizes) (pc := 28) (zd_dr dc_De_orderOfSizes 15 rfl)) ?_
  refine zd_ac (ok_icmp_eq (l := l) (B := B) (y := m_De_orderOfSizes) (pc := 30) (zd_dr dc_De_orderOfSizes 16 rfl) (by decide)) ?_
  refine zd_ac (ok_iload_n (l := l) (B := B) (y := m_De_orderOfSizes) (pc := 33) (k := 3) rfl (zd_dr dc_De_orderOfSizes 17 rfl)) ?_
  refine zd_ac (ok_iload (l := l) (B := B) (y := m_De_orderOfSizes) (pc := 34) (zd_dr dc_De_orderOfSizes 18 rfl)) ?_
  refine zd_ac (ok_calls (l := l) (B := B) (y := m_De_orderOfSizes) (pc := 36) hG cf_De_orderOfSizes_In_compare rfl (List.mem_of_getElem? (i := 791) (by decide +kernel)) (List.mem_of_getElem? (i := 566) (by decide +kernel)) (List.mem_of_getElem? (i := 73) (by decide +kernel)) (zd_dr dc_De_orderOfSizes 19 rfl)) ?_
  refine zd_ac (ok_iret (l := l) (B := B) (y := m_De_orderOfSizes) (pc := 39) rfl (zd_dr dc_De_orderOfSizes 20 rfl)) ?_
  refine zd_ac (ok_aload_n (l := l) (B := B) (y := m_De_orderOfSizes) (pc := 40) (k := 0) rfl (zd_dr dc_De_orderOfSizes 21 rfl)) ?_
  refine zd_ac (ok_aload_n (l := l) (B := B) (y := m_De_orderOfSizes) (pc := 41) (k := 1) rfl (zd_dr dc_De_orderOfSizes 22 rfl)) ?_
  refine zd_ac (ok_aload_n (l := l) (B := B) (y := m_De_orderOfSizes) (pc := 42) (k := 2) rfl (zd_dr dc_De_orderOfSizes 23 rfl)) ?_
  refine zd_ac (ok_callv (l := l) (B := B) (y := m_De_orderOfSizes) (pc := 43) hG (ci := 0) rfl cf_De_orderOfSizes_De_align rfl (List.mem_of_getElem? (i := 519) (by decide +kernel)) (List.mem_of_getElem? (i := 521) (by decide +kernel)) (List.mem_of_getElem? (i := 5) (by decide +kernel)) (zd_dr dc_De_orderOfSizes 24 rfl)) ?_
  refine zd_ac (ok_aload_n (l := l) (B := B) (y := m_De_orderOfSizes) (pc := 46) (k := 0) rfl (zd_dr dc_De_orderOfSizes 25 rfl)) ?_
  refine zd_ac (ok_getf (l := l) (B := B) (y := m_De_orderOfSizes) (pc := 47) hG (C := zR0) (T := zT0) (N := 8) (ci := 0) (k := 5) rfl zl0 (by decide) (List.mem_of_getElem? (i := 239) (by decide +kernel)) (zd_dr dc_De_orderOfSizes 26 rfl)) ?_
  refine zd_ac (ok_getf (l := l) (B := B) (y := m_De_orderOfSizes) (pc := 50) hG (C := zR6) (T := zT6) (N := 4) (ci := 6) (k := 0) rfl zl6 (by decide) (List.mem_of_getElem? (i := 214) (by decide +kernel)) (zd_dr dc_De_orderOfSizes 27 rfl)) ?_
  refine zd_ac (ok_aload_n (l := l) (B := B) (y := m_De_orderOfSizes) (pc := 53) (k := 0) rfl (zd_dr dc_De_orderOfSizes 28 rfl)) ?_
  refine zd_ac (ok_getf (l := l) (B := B) (y := m_De_orderOfSizes) (pc := 54) hG (C := zR0) (T := zT0) (N := 8) (ci := 0) (k := 6) rfl zl0 (by decide) (List.mem_of_getElem? (i := 240) (by decide +kernel)) (zd_dr dc_De_orderOfSizes 29 rfl)) ?_
  refine zd_ac (ok_callv (l := l) (B := B) (y := m_De_orderOfSizes) (pc := 57) hG (ci := 4) rfl cf_De_orderOfSizes_Na_order rfl (List.mem_of_getElem? (i := 561) (by decide +kernel)) (List.mem_of_getElem? (i := 562) (by decide +kernel)) (List.mem_of_getElem? (i := 563) (by decide +kernel)) (zd_dr dc_De_orderOfSizes 30 rfl)) ?_
  refine zd_ac (ok_iret (l := l) (B := B) (y := m_De_orderOfSizes) (pc := 60) rfl (zd_dr dc_De_orderOfSizes 31 rfl)) ?_
  exact zd_an
