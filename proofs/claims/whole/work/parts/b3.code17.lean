/-! written by gencode.py: code of the law -/
theorem cf_La_law_De_character : zd_cf m_La_law m_De_character 1 := ⟨(List.mem_of_getElem? (i := 282) (by decide +kernel)), by decide +kernel, by decide, by decide, ⟨by decide, by decide⟩, by decide +kernel⟩
theorem cf_La_law_De_init : zd_cf m_La_law m_De_init 0 := ⟨(List.mem_of_getElem? (i := 79) (by decide +kernel)), by decide +kernel, by decide, by decide, ⟨by decide, by decide⟩, by decide +kernel⟩
theorem cf_La_law_De_wipe : zd_cf m_La_law m_De_wipe 0 := ⟨(List.mem_of_getElem? (i := 274) (by decide +kernel)), by decide +kernel, by decide, by decide, ⟨by decide, by decide⟩, by decide +kernel⟩
theorem cf_La_law_De_write : zd_cf m_La_law m_De_write 1 := ⟨(List.mem_of_getElem? (i := 262) (by decide +kernel)), by decide +kernel, by decide, by decide, ⟨by decide, by decide⟩, by decide +kernel⟩
theorem cf_La_law_La_add : zd_cf m_La_law m_La_add 5 := ⟨(List.mem_of_getElem? (i := 508) (by decide +kernel)), by decide +kernel, by decide, by decide, ⟨by decide, by decide⟩, by decide +kernel⟩
theorem cf_La_law_La_compare : zd_cf m_La_law m_La_compare 4 := ⟨(List.mem_of_getElem? (i := 782) (by decide +kernel)), by decide +kernel, by decide, by decide, ⟨by decide, by decide⟩, by decide +kernel⟩
theorem cf_La_law_La_divide : zd_cf m_La_law m_La_divide 6 := ⟨(List.mem_of_getElem? (i := 585) (by decide +kernel)), by decide +kernel, by decide, by decide, ⟨by decide, by decide⟩, by decide +kernel⟩
theorem cf_La_law_La_multiply : zd_cf m_La_law m_La_multiply 4 := ⟨(List.mem_of_getElem? (i := 574) (by decide +kernel)), by decide +kernel, by decide, by decide, ⟨by decide, by decide⟩, by decide +kernel⟩
theorem cf_La_law_La_negate : zd_cf m_La_law m_La_negate 3 := ⟨(List.mem_of_getElem? (i := 775) (by decide +kernel)), by decide +kernel, by decide, by decide, ⟨by decide, by decide⟩, by decide +kernel⟩
theorem cf_La_law_La_power : zd_cf m_La_law m_La_power 4 := ⟨(List.mem_of_getElem? (i := 704) (by decide +kernel)), by decide +kernel, by decide, by decide, ⟨by decide, by decide⟩, by decide +kernel⟩
theorem cf_La_law_La_put : zd_cf m_La_law m_La_put 4 := ⟨(List.mem_of_getElem? (i := 495) (by decide +kernel)), by decide +kernel, by decide, by decide, ⟨by decide, by decide⟩, by decide +kernel⟩
theorem cf_La_law_La_quotient : zd_cf m_La_law m_La_quotient 6 := ⟨(List.mem_of_getElem? (i := 666) (by decide +kernel)), by decide +kernel, by decide, by decide, ⟨by decide, by decide⟩, by decide +kernel⟩
theorem cf_La_law_La_read : zd_cf m_La_law m_La_read 2 := ⟨(List.mem_of_getElem? (i := 289) (by decide +kernel)), by decide +kernel, by decide, by decide, ⟨by decide, by decide⟩, by decide +kernel⟩
theorem cf_La_law_La_remainder : zd_cf m_La_law m_La_remainder 4 := ⟨(List.mem_of_getElem? (i := 692) (by decide +kernel)), by decide +kernel, by decide, by decide, ⟨by decide, by decide⟩, by decide +kernel⟩
theorem cf_La_law_La_root : zd_cf m_La_law m_La_root 5 := ⟨(List.mem_of_getElem? (i := 716) (by decide +kernel)), by decide +kernel, by decide, by decide, ⟨by decide, by decide⟩, by decide +kernel⟩
theorem cf_La_law_La_round : zd_cf m_La_law m_La_round 5 := ⟨(List.mem_of_getElem? (i := 753) (by decide +kernel)), by decide +kernel, by decide, by decide, ⟨by decide, by decide⟩, by decide +kernel⟩
theorem cf_La_law_La_shift : zd_cf m_La_law m_La_shift 4 := ⟨(List.mem_of_getElem? (i := 768) (by decide +kernel)), by decide +kernel, by decide, by decide, ⟨by decide, by decide⟩, by decide +kernel⟩
theorem cf_La_law_La_strip : zd_cf m_La_law m_La_strip 3 := ⟨(List.mem_of_getElem? (i := 760) (by decide +kernel)), by decide +kernel, by decide, by decide, ⟨by decide, by decide⟩, by decide +kernel⟩
theorem cf_La_law_La_toScale : zd_cf m_La_law m_La_toScale 5 := ⟨(List.mem_of_getElem? (i := 746) (by decide +kernel)), by decide +kernel, by decide, by decide, ⟨by decide, by decide⟩, by decide +kernel⟩
theorem cf_La_law_La_told : zd_cf m_La_law m_La_told 4 := ⟨(List.mem_of_getElem? (i := 798) (by decide +kernel)), by decide +kernel, by decide, by decide, ⟨by decide, by decide⟩, by decide +kernel⟩
theorem cf_La_law_La_written : zd_cf m_La_law m_La_written 4 := ⟨(List.mem_of_getElem? (i := 823) (by decide +kernel)), by decide +kernel, by decide, by decide, ⟨by decide, by decide⟩, by decide +kernel⟩
theorem cf_La_law_Mo_add : zd_cf m_La_law m_Mo_add 4 := ⟨(List.mem_of_getElem? (i := 1009) (by decide +kernel)), by decide +kernel, by decide, by decide, ⟨by decide, by decide⟩, by decide +kernel⟩
theorem cf_La_law_Mo_character : zd_cf m_La_law m_Mo_character 1 := ⟨(List.mem_of_getElem? (i := 1162) (by decide +kernel)), by decide +kernel, by decide, by decide, ⟨by decide, by decide⟩, by decide +kernel⟩
theorem cf_La_law_Mo_compare : zd_cf m_La_law m_Mo_compare 2 := ⟨(List.mem_of_getElem? (i := 997) (by decide +kernel)), by decide +kernel, by decide, by decide, ⟨by decide, by decide⟩, by decide +kernel⟩
theorem cf_La_law_Mo_divide : zd_cf m_La_law m_Mo_divide 5 := ⟨(List.mem_of_getElem? (i := 1034) (by decide +kernel)), by decide +kernel, by decide, by decide, ⟨by decide, by decide⟩, by decide +kernel⟩
theorem cf_La_law_Mo_init : zd_cf m_La_law m_Mo_init 0 := ⟨(List.mem_of_getElem? (i := 880) (by decide +kernel)), by decide +kernel, by decide, by decide, ⟨by decide, by decide⟩, by decide +kernel⟩
theorem cf_La_law_Mo_multiply : zd_cf m_La_law m_Mo_multiply 3 := ⟨(List.mem_of_getElem? (i := 1018) (by decide +kernel)), by decide +kernel, by decide, by decide, ⟨by decide, by decide⟩, by decide +kernel⟩
theorem cf_La_law_Mo_negate : zd_cf m_La_law m_Mo_negate 2 := ⟨(List.mem_of_getElem? (i := 1135) (by decide +kernel)), by decide +kernel, by decide, by decide, ⟨by decide, by decide⟩, by decide +kernel⟩
theorem cf_La_law_Mo_power : zd_cf m_La_law m_Mo_power 3 := ⟨(List.mem_of_getElem? (i := 1030) (by decide +kernel)), by decide +kernel, by decide, by decide, ⟨by decide, by decide⟩, by decide +kernel⟩
theorem cf_La_law_Mo_put : zd_cf m_La_law m_Mo_put 3 := ⟨(List.mem_of_getElem? (i := 993) (by decide +kernel)), by decide +kernel, by decide, by decide, ⟨by decide, by decide⟩, by decide +kernel⟩
theorem cf_La_law_Mo_quotient : zd_cf m_La_law m_Mo_quotient 5 := ⟨(List.mem_of_getElem? (i := 1083) (by decide +kernel)), by decide +kernel, by decide, by decide, ⟨by decide, by decide⟩, by decide +kernel⟩
theorem cf_La_law_Mo_read : zd_cf m_La_law m_Mo_read 1 := ⟨(List.mem_of_getElem? (i := 963) (by decide +kernel)), by decide +kernel, by decide, by decide, ⟨by decide, by decide⟩, by decide +kernel⟩
theorem cf_La_law_Mo_remainder : zd_cf m_La_law m_Mo_remainder 3 := ⟨(List.mem_of_getElem? (i := 1099) (by decide +kernel)), by decide +kernel, by decide, by decide, ⟨by decide, by decide⟩, by decide +kernel⟩
theorem cf_La_law_Mo_root : zd_cf m_La_law m_Mo_root 4 := ⟨(List.mem_of_getElem? (i := 1107) (by decide +kernel)), by decide +kernel, by decide, by decide, ⟨by decide, by decide⟩, by decide +kernel⟩
theorem cf_La_law_Mo_round : zd_cf m_La_law m_Mo_round 4 := ⟨(List.mem_of_getElem? (i := 1123) (by decide +kernel)), by decide +kernel, by decide, by decide, ⟨by decide, by decide⟩, by decide +kernel⟩
theorem cf_La_law_Mo_shift : zd_cf m_La_law m_Mo_shift 3 := ⟨(List.mem_of_getElem? (i := 1131) (by decide +kernel)), by decide +kernel, by decide, by decide, ⟨by decide, by decide⟩, by decide +kernel⟩
theorem cf_La_law_Mo_strip : zd_cf m_La_law m_Mo_strip 2 := ⟨(List.mem_of_getElem? (i := 1127) (by decide +kernel)), by decide +kernel, by decide, by decide, ⟨by decide, by decide⟩, by decide +kernel⟩
theorem cf_La_law_Mo_thrown : zd_cf m_La_law m_Mo_thrown 0 := ⟨(List.mem_of_getElem? (i := 950) (by decide +kernel)), by decide +kernel, by decide, by decide, ⟨by decide, by decide⟩, by decide +kernel⟩
theorem cf_La_law_Mo_toScale : zd_cf m_La_law m_Mo_toScale 4 := ⟨(List.mem_of_getElem? (i := 1119) (by decide +kernel)), by decide +kernel, by decide, by decide, ⟨by decide, by decide⟩, by decide +kernel⟩
theorem cf_La_law_Mo_told : zd_cf m_La_law m_Mo_told 2 := ⟨(List.mem_of_getElem? (i := 1139) (by decide +kernel)), by decide +kernel, by decide, by decide, ⟨by decide, by decide⟩, by decide +kernel⟩
theorem cf_La_law_Mo_wipe : zd_cf m_La_law m_Mo_wipe 0 := ⟨(List.mem_of_getElem? (i := 959) (by decide +kernel)), by decide +kernel, by decide, by decide, ⟨by decide, by decide⟩, by decide +kernel⟩
theorem cf_La_law_Mo_write : zd_cf m_La_law m_Mo_write 1 := ⟨(List.mem_of_getElem? (i := 954) (by decide +kernel)), by decide +kernel, by decide, by decide, ⟨by decide, by decide⟩, by decide +kernel⟩
theorem cf_La_law_Mo_written : zd_cf m_La_law m_Mo_written 2 := ⟨(List.mem_of_getElem? (i := 1143) (by decide +kernel)), by decide +kernel, by decide, by decide, ⟨by decide, by decide⟩, by decide +kernel⟩
def dl_La_b : List (Nat × Instr × Nat) := [(0, .new 8, 3), (3, .dup, 1), (4, .invokespecial 76, 3), (7, .astore_n 1, 1), (8, .new 77, 3), (11, .dup, 1), (12, .invokespecial 79, 3), (15, .astore_n 2, 1), (16, .iconst (1), 1), (17, .newarray .long, 2), (19, .astore_n 3, 1), (20, .iconst (0), 1), (21, .istore 4, 2), (23, .iload 4, 2), (25, .aload_n 0, 1), (26, .arraylength, 1), (27, .bipush (6), 2), (29, .isub, 1), (30, .if_icmp .gt (1347), 3), (33, .aload_n 0, 1), (34, .iload 4, 2), (36, .iaload, 1), (37, .bipush (31), 2), (39, .iand, 1), (40, .tableswitch (1331) (0) (19) #[(96), (153), (166), (202), (294), (382), (442), (526), (610), (670), (730), (802), (874), (946), (994), (1054), (1102), (1170), (1238), (1306)], 96)]
theorem dc_La_b : ∀ q ∈ dl_La_b, decode (zd_yb m_La_law) q.1 = .ok q.2 := by decide +kernel
def cd_La_b (l : Launch) (B : zd_B) : List (Nat × zd_S) := [(0, oc_new B 0 8 [.null, .null, .null, .null, .null, .null, .null, .null] 3), (3, oc_dup 4), (4, oc_calli l B m_De_init 0 7), (7, oc_astore 1 8), (8, oc_new B 8 21 [.int 0, .null, .int 0, .null, .null, .null, .null, .null, .int 0, .long 0, .int 0, .int 0, .null, .int 0, .null, .int 0, .null, .int 0, .null, .int 0, .int 0] 11), (11, oc_dup 12), (12, oc_calli l B m_Mo_init 0 15), (15, oc_astore 2 16), (16, oc_ci (1) 17), (17, oc_newaL B 19), (19, oc_astore 3 20), (20, oc_ci (0) 21), (21, oc_istore 4 23), (23, oc_iload 4 25), (25, oc_aload 0 26), (26, oc_arraylength B 27), (27, oc_ci (6) 29), (29, oc_isub 30), (30, oc_icmp_gt 1377 33), (33, oc_aload 0 34), (34, oc_iload 4 36), (36, oc_iaload B 37), (37, oc_ci (31) 39), (39, oc_iand 40), (40, oc_sw [(0, 136), (1, 193), (2, 206), (3, 242), (4, 334), (5, 422), (6, 482), (7, 566), (8, 650), (9, 710), (10, 770), (11, 842), (12, 914), (13, 986), (14, 1034), (15, 1094), (16, 1142), (17, 1210), (18, 1278), (19, 1346)] 1371)]
set_option maxRecDepth 20000 in
theorem ok_La_b {l : Launch} {B : zd_B} (hG : zd_G B) (hl : l.stackTraces = false) : ∀ q ∈ cd_La_b l B, zd_ok l B m_La_law q.1 q.2 := by
  unfold cd_La_b
  refine zd_ac (ok_new (l := l) (B := B) (y := m_La_law) (pc := 0) hG (C := zR0) (T := zT0) (ty := zy0) (N := 8) rfl zl0 zt0 (List.mem_of_getElem? (i := 75) (by decide +kernel)) (List.mem_of_getElem? (i := 76) (by decide +kernel)) (List.mem_of_getElem? (i := 56) (by decide +kernel)) (by decide) (zd_dr dc_La_b 0 rfl)) ?_
  refine zd_ac (ok_dup (l := l) (B := B) (y := m_La_law) (pc := 3) (zd_dr dc_La_b 1 rfl)) ?_
  refine zd_ac (ok_calli (l := l) (B := B) (y := m_La_law) (pc := 4) hG cf_La_law_De_init rfl rfl rfl rfl (List.mem_of_getElem? (i := 77) (by decide +kernel)) (List.mem_of_getElem? (i := 78) (by decide +kernel)) (zd_dr dc_La_b 2 rfl)) ?_
  refine zd_ac (ok_astore_n (l := l) (B := B) (y := m_La_law) (pc := 7) (k := 1) rfl (zd_dr dc_La_b 3 rfl) (by decide)) ?_
  refine zd_ac (ok_new (l := l) (B := B) (y := m_La_law) (pc := 8) hG (C := zR8) (T := zT8) (ty := zy8) (N := 21) rfl zl8 zt8 (List.mem_of_getElem? (i := 876) (by decide +kernel)) (List.mem_of_getElem? (i := 877) (by decide +kernel)) (List.mem_of_getElem? (i := 64) (by decide +kernel)) (by decide) (zd_dr dc_La_b 4 rfl)) ?_
  refine zd_ac (ok_dup (l := l) (B := B) (y := m_La_law) (pc := 11) (zd_dr dc_La_b 5 rfl)) ?_
  refine zd_ac (ok_calli (l := l) (B := B) (y := m_La_law) (pc := 12) hG cf_La_law_Mo_init rfl rfl rfl rfl (List.mem_of_getElem? (i := 878) (by decide +kernel)) (List.mem_of_getElem? (i := 879) (by decide +kernel)) (zd_dr dc_La_b 6 rfl)) ?_
  refine zd_ac (ok_astore_n (l := l) (B := B) (y := m_La_law) (pc := 15) (k := 2) rfl (zd_dr dc_La_b 7 rfl) (by decide)) ?_
  refine zd_ac (ok_iconst (l := l) (B := B) (y := m_La_law) (pc := 16) (n := (1)) (zd_dr dc_La_b 8 rfl) rfl) ?_
  refine zd_ac (ok_newa_long (l := l) (B := B) (y := m_La_law) (pc := 17) hG (List.mem_of_getElem? (i := 1164) (by decide +kernel)) (zd_dr dc_La_b 9 rfl)) ?_
  refine zd_ac (ok_astore_n (l := l) (B := B) (y := m_La_law) (pc := 19) (k := 3) rfl (zd_dr dc_La_b 10 rfl) (by decide)) ?_
  refine zd_ac (ok_iconst (l := l) (B := B) (y := m_La_law) (pc := 20) (n := (0)) (zd_dr dc_La_b 11 rfl) rfl) ?_
  refine zd_ac (ok_istore (l := l) (B := B) (y := m_La_law) (pc := 21) (zd_dr dc_La_b 12 rfl) (by decide)) ?_
  refine zd_ac (ok_iload (l := l) (B := B) (y := m_La_law) (pc := 23) (zd_dr dc_La_b 13 rfl)) ?_
  refine zd_ac (ok_aload_n (l := l) (B := B) (y := m_La_law) (pc := 25) (k := 0) rfl (zd_dr dc_La_b 14 rfl)) ?_
  refine zd_ac (ok_arraylength (l := l) (B := B) (y := m_La_law) (pc := 26) hG (zd_dr dc_La_b 15 rfl)) ?_
  refine zd_ac (ok_bipush (l := l) (B := B) (y := m_La_law) (pc := 27) (n := (6)) (zd_dr dc_La_b 16 rfl) rfl) ?_
  refine zd_ac (ok_isub (l := l) (B := B) (y := m_La_law) (pc := 29) (zd_dr dc_La_b 17 rfl)) ?_
  refine zd_ac (ok_icmp_gt (l := l) (B := B) (y := m_La_law) (pc := 30) (zd_dr dc_La_b 18 rfl) (by decide)) ?_
  refine zd_ac (ok_aload_n (l := l) (B := B) (y := m_La_law) (pc := 33) (k := 0) rfl (zd_dr dc_La_b 19 rfl)) ?_
  refine zd_ac (ok_iload (l := l) (B := B) (y := m_La_law) (pc := 34) (zd_dr dc_La_b 20 rfl)) ?_
  refine zd_ac (ok_iaload (l := l) (B := B) (y := m_La_law) (pc := 36) hG (zd_dr dc_La_b 21 rfl)) ?_
  refine zd_ac (ok_bipush (l := l) (B := B) (y := m_La_law) (pc := 37) (n := (31)) (zd_dr dc_La_b 22 rfl) rfl) ?_
  refine zd_ac (ok_iand (l := l) (B := B) (y := m_La_law) (pc := 39) (zd_dr dc_La_b 23 rfl)) ?_
  refine zd_ac (ok_sw (l := l) (B := B) (y := m_La_law) (pc := 40) (zd_dr dc_La_b 24 rfl) (by decide) (by unfold zd_swok; decide +kernel)) ?_
  exact zd_an
def dl_La_0 : List (Nat × Instr × Nat) := [(136, .aload_n 1, 1), (137, .aload_n 0, 1), (138, .iload 4, 2), (140, .iconst (1), 1), (141, .iadd, 1), (142, .iaload, 1), (143, .i2l, 1), (144, .bipush (32), 2), (146, .lshl, 1), (147, .aload_n 0, 1), (148, .iload 4, 2), (150, .iconst (2), 1), (151, .iadd, 1), (152, .iaload, 1), (153, .i2l, 1), (154, .ldc2_w 80, 3), (157, .land, 1), (158, .lor, 1), (159, .invokevirtual 82, 3), (162, .aload_n 2, 1), (163, .aload_n 0, 1), (164, .iload 4, 2), (166, .iconst (1), 1), (167, .iadd, 1), (168, .iaload, 1), (169, .i2l, 1), (170, .bipush (32), 2), (172, .lshl, 1), (173, .aload_n 0, 1), (174, .iload 4, 2), (176, .iconst (2), 1), (177, .iadd, 1), (178, .iaload, 1), (179, .i2l, 1), (180, .ldc2_w 80, 3), (183, .land, 1), (184, .lor, 1), (185, .invokevirtual 86, 3), (188, .if_icmp .eq (1183), 3), (191, .iconst (0), 1), (192, .ireturn, 1)]
theorem dc_La_0 : ∀ q ∈ dl_La_0, decode (zd_yb m_La_law) q.1 = .ok q.2 := by decide +kernel
def cd_La_0 (l : Launch) (B : zd_B) : List (Nat × zd_S) := [(136, oc_aload 1 137), (137, oc_aload 0 138), (138, oc_iload 4 140), (140, oc_ci (1) 141), (141, oc_iadd 142), (142, oc_iaload B 143), (143, oc_i2l 144), (144, oc_ci (32) 146), (146, oc_lshl 147), (147, oc_aload 0 148), (148, oc_iload 4 150), (150, oc_ci (2) 151), (151, oc_iadd 152), (152, oc_iaload B 153), (153, oc_i2l 154), (154, oc_cl (4294967295) 157), (157, oc_land 158), (158, oc_lor 159), (159, oc_callv l B 0 m_De_write 1 162), (162, oc_aload 2 163), (163, oc_aload 0 164), (164, oc_iload 4 166), (166, oc_ci (1) 167), (167, oc_iadd 168), (168, oc_iaload B 169), (169, oc_i2l 170), (170, oc_ci (32) 172), (172, oc_lshl 173), (173, oc_aload 0 174), (174, oc_iload 4 176), (176, oc_ci (2) 177), (177, oc_iadd 178), (178, oc_iaload B 179), (179, oc_i2l 180), (180, oc_cl (4294967295) 183), (183, oc_land 184), (184, oc_lor 185), (185, oc_callv l B 8 m_Mo_write 1 188), (188, oc_icmp_eq 1371 191), (191, oc_ci (0) 192), (192, oc_iret .boolean)]
set_option maxRecDepth 20000 in
theorem ok_La_0 {l : Launch} {B : zd_B} (hG : zd_G B) (hl : l.stackTraces = false) : ∀ q ∈ cd_La_0 l B, zd_ok l B m_La_law q.1 q.2 := by
  unfold cd_La_0
  refine zd_ac (ok_aload_n (l := l) (B := B) (y := m_La_law) (pc := 136) (k := 1) rfl (zd_dr dc_La_0 0 rfl)) ?_
  refine zd_ac (ok_aload_n (l := l) (B := B) (y := m_La_law) (pc := 137) (k := 0) rfl (zd_dr dc_La_0 1 rfl)) ?_
  refine zd_ac (ok_iload (l := l) (B := B) (y := m_La_law) (pc := 138) (zd_dr dc_La_0 2 rfl)) ?_
  refine zd_ac (ok_iconst (l := l) (B := B) (y := m_La_law) (pc := 140) (n := (1)) (zd_dr dc_La_0 3 rfl) rfl) ?_
  refine zd_ac (ok_iadd (l := l) (B := B) (y := m_La_law) (pc := 141) (zd_dr dc_La_0 4 rfl)) ?_
  refine zd_ac (ok_iaload (l := l) (B := B) (y := m_La_law) (pc := 142) hG (zd_dr dc_La_0 5 rfl)) ?_
  refine zd_ac (ok_i2l (l := l) (B := B) (y := m_La_law) (pc := 143) (zd_dr dc_La_0 6 rfl)) ?_
  refine zd_ac (ok_bipush (l := l) (B := B) (y := m_La_law) (pc := 144) (n := (32)) (zd_dr dc_La_0 7 rfl) rfl) ?_
  refine zd_ac (ok_lshl (l := l) (B := B) (y := m_La_law) (pc := 146) (zd_dr dc_La_0 8 rfl)) ?_
  refine zd_ac (ok_aload_n (l := l) (B := B) (y := m_La_law) (pc := 147) (k := 0) rfl (zd_dr dc_La_0 9 rfl)) ?_
  refine zd_ac (ok_iload (l := l) (B := B) (y := m_La_law) (pc := 148) (zd_dr dc_La_0 10 rfl)) ?_
  refine zd_ac (ok_iconst (l := l) (B := B) (y := m_La_law) (pc := 150) (n := (2)) (zd_dr dc_La_0 11 rfl) rfl) ?_
  refine zd_ac (ok_iadd (l := l) (B := B) (y := m_La_law) (pc := 151) (zd_dr dc_La_0 12 rfl)) ?_
  refine zd_ac (ok_iaload (l := l) (B := B) (y := m_La_law) (pc := 152) hG (zd_dr dc_La_0 13 rfl)) ?_
  refine zd_ac (ok_i2l (l := l) (B := B) (y := m_La_law) (pc := 153) (zd_dr dc_La_0 14 rfl)) ?_
  refine zd_ac (ok_ldc2 (l := l) (B := B) (y := m_La_law) (pc := 154) hG (List.mem_of_getElem? (i := 1163) (by decide +kernel)) (zd_dr dc_La_0 15 rfl)) ?_
  refine zd_ac (ok_land (l := l) (B := B) (y := m_La_law) (pc := 157) (zd_dr dc_La_0 16 rfl)) ?_
  refine zd_ac (ok_lor (l := l) (B := B) (y := m_La_law) (pc := 158) (zd_dr dc_La_0 17 rfl)) ?_
  refine zd_ac (ok_callv (l := l) (B := B) (y := m_La_law) (pc := 159) hG (ci := 0) rfl cf_La_law_De_write rfl (List.mem_of_getElem? (i := 259) (by decide +kernel)) (List.mem_of_getElem? (i := 260) (by decide +kernel)) (List.mem_of_getElem? (i := 261) (by decide +kernel)) (zd_dr dc_La_0 18 rfl)) ?_
  refine zd_ac (ok_aload_n (l := l) (B := B) (y := m_La_law) (pc := 162) (k := 2) rfl (zd_dr dc_La_0 19 rfl)) ?_
  refine zd_ac (ok_aload_n (l := l) (B := B) (y := m_La_law) (pc := 163) (k := 0) rfl (zd_dr dc_La_0 20 rfl)) ?_
  refine zd_ac (ok_iload (l := l) (B := B) (y := m_La_law) (pc := 164) (zd_dr dc_La_0 21 rfl)) ?_
  refine zd_ac (ok_iconst (l := l) (B := B) (y := m_La_law) (pc := 166) (n := (1)) (zd_dr dc_La_0 22 rfl) rfl) ?_
  refine zd_ac (ok_iadd (l := l) (B := B) (y := m_La_law) (pc := 167) (zd_dr dc_La_0 23 rfl)) ?_
  refine zd_ac (ok_iaload (l := l) (B := B) (y := m_La_law) (pc := 168) hG (zd_dr dc_La_0 24 rfl)) ?_
  refine zd_ac (ok_i2l (l := l) (B := B) (y := m_La_law) (pc := 169) (zd_dr dc_La_0 25 rfl)) ?_
  refine zd_ac (ok_bipush (l := l) (B := B) (y := m_La_law) (pc := 170) (n := (32)) (zd_dr dc_La_0 26 rfl) rfl) ?_
  refine zd_ac (ok_lshl (l := l) (B := B) (y := m_La_law) (pc := 172) (zd_dr dc_La_0 27 rfl)) ?_
  refine zd_ac (ok_aload_n (l := l) (B := B) (y := m_La_law) (pc := 173) (k := 0) rfl (zd_dr dc_La_0 28 rfl)) ?_
  refine zd_ac (ok_iload (l := l) (B := B) (y := m_La_law) (pc := 174) (zd_dr dc_La_0 29 rfl)) ?_
  refine zd_ac (ok_iconst (l := l) (B := B) (y := m_La_law) (pc := 176) (n := (2)) (zd_dr dc_La_0 30 rfl) rfl) ?_
  refine zd_ac (ok_iadd (l := l) (B := B) (y := m_La_law) (pc := 177) (zd_dr dc_La_0 31 rfl)) ?_
  refine zd_ac (ok_iaload (l := l) (B := B) (y := m_La_law) (pc := 178) hG (zd_dr dc_La_0 32 rfl)) ?_
  refine zd_ac (ok_i2l (l := l) (B := B) (y := m_La_law) (pc := 179) (zd_dr dc_La_0 33 rfl)) ?_
  refine zd_ac (ok_ldc2 (l := l) (B := B) (y := m_La_law) (pc := 180) hG (List.mem_of_getElem? (i := 1163) (by decide +kernel)) (zd_dr dc_La_0 34 rfl)) ?_
  refine zd_ac (ok_land (l := l) (B := B) (y := m_La_law) (pc := 183) (zd_dr dc_La_0 35 rfl)) ?_
  refine zd_ac (ok_lor (l := l) (B := B) (y := m_La_law) (pc := 184) (zd_dr dc_La_0 36 rfl)) ?_
  refine zd_ac (ok_callv (l := l) (B := B) (y := m_La_law) (pc := 185) hG (ci := 8) rfl cf_La_law_Mo_write rfl (List.mem_of_getElem? (i := 951) (by decide +kernel)) (List.mem_of_getElem? (i := 952) (by decide +kernel)) (List.mem_of_getElem? (i := 953) (by decide +kernel)) (zd_dr dc_La_0 37 rfl)) ?_
  refine zd_ac (ok_icmp_eq (l := l) (B := B) (y := m_La_law) (pc := 188) (zd_dr dc_La_0 38 rfl) (by decide)) ?_
  refine zd_ac (ok_iconst (l := l) (B := B) (y := m_La_law) (pc := 191) (n := (0)) (zd_dr dc_La_0 39 rfl) rfl) ?_
  refine zd_ac (ok_iret (l := l) (B := B) (y := m_La_law) (pc := 192) rfl (zd_dr dc_La_0 40 rfl)) ?_
  exact zd_an
def dl_La_1 : List (Nat × Instr × Nat) := [(193, .aload_n 1, 1), (194, .invokevirtual 87, 3), (197, .aload_n 2, 1), (198, .invokevirtual 91, 3), (201, .if_icmp .eq (1170), 3), (204, .iconst (0), 1), (205, .ireturn, 1)]
theorem dc_La_1 : ∀ q ∈ dl_La_1, decode (zd_yb m_La_law) q.1 = .ok q.2 := by decide +kernel
def cd_La_1 (l : Launch) (B : zd_B) : List (Nat × zd_S) := [(193, oc_aload 1 194), (194, oc_callv l B 0 m_De_wipe 0 197), (197, oc_aload 2 198), (198, oc_callv l B 8 m_Mo_wipe 0 201), (201, oc_icmp_eq 1371 204), (204, oc_ci (0) 205), (205, oc_iret .boolean)]
set_option maxRecDepth 20000 in
theorem ok_La_1 {l : Launch} {B : zd_B} (hG : zd_G B) (hl : l.stackTraces = false) : ∀ q ∈ cd_La_1 l B, zd_ok l B m_La_law q.1 q.2 := by
  unfold cd_La_1
  refine zd_ac (ok_aload_n (l := l) (B := B) (y := m_La_law) (pc := 193) (k := 1) rfl (zd_dr dc_La_1 0 rfl)) ?_
  refine zd_ac (ok_callv (l := l) (B := B) (y := m_La_law) (pc := 194) hG (ci := 0) rfl cf_La_law_De_wipe rfl (List.mem_of_getElem? (i := 271) (by decide +kernel)) (List.mem_of_getElem? (i := 272) (by decide +kernel)) (List.mem_of_getElem? (i := 273) (by decide +kernel)) (zd_dr dc_La_1 1 rfl)) ?_
  refine zd_ac (ok_aload_n (l := l) (B := B) (y := m_La_law) (pc := 197) (k := 2) rfl (zd_dr dc_La_1 2 rfl)) ?_
  refine zd_ac (ok_callv (l := l) (B := B) (y := m_La_law) (pc := 198) hG (ci := 8) rfl cf_La_law_Mo_wipe rfl (List.mem_of_getElem? (i := 956) (by decide +kernel)) (List.mem_of_getElem? (i := 957) (by decide +kernel)) (List.mem_of_getElem? (i := 958) (by decide +kernel)) (zd_dr dc_La_1 3 rfl)) ?_
  refine zd_ac (ok_icmp_eq (l := l) (B := B) (y := m_La_law) (pc := 201) (zd_dr dc_La_1 4 rfl) (by decide)) ?_
  refine zd_ac (ok_iconst (l := l) (B := B) (y := m_La_law) (pc := 204) (n := (0)) (zd_dr dc_La_1 5 rfl) rfl) ?_
  refine zd_ac (ok_iret (l := l) (B := B) (y := m_La_law) (pc := 205) rfl (zd_dr dc_La_1 6 rfl)) ?_
  exact zd_an
def dl_La_2 : List (Nat × Instr × Nat) := [(206, .aload_n 1, 1), (207, .aload_n 0, 1), (208, .iload 4, 2), (210, .iconst (1), 1), (211, .iadd, 1), (212, .iaload, 1), (213, .invokestatic 92, 3), (216, .istore 5, 2), (218, .aload_n 2, 1), (219, .aload_n 0, 1), (220, .iload 4, 2), (222, .iconst (1), 1), (223, .iadd, 1), (224, .iaload, 1), (225, .invokevirtual 97, 3), (228, .aload_n 2, 1), (229, .invokevirtual 98, 3), (232, .iload 5, 2), (234, .if_icmp .eq (5), 3), (237, .iconst (0), 1), (238, .ireturn, 1), (239, .goto (1132), 3)]
theorem dc_La_2 : ∀ q ∈ dl_La_2, decode (zd_yb m_La_law) q.1 = .ok q.2 := by decide +kernel
def cd_La_2 (l : Launch) (B : zd_B) : List (Nat × zd_S) := [(206, oc_aload 1 207), (207, oc_aload 0 208), (208, oc_iload 4 210), (210, oc_ci (1) 211), (211, oc_iadd 212), (212, oc_iaload B 213), (213, oc_calls l B m_La_read 2 216), (216, oc_istore 5 218), (218, oc_aload 2 219), (219, oc_aload 0 220), (220, oc_iload 4 222), (222, oc_ci (1) 223), (223, oc_iadd 224), (224, oc_iaload B 225), (225, oc_callv l B 8 m_Mo_read 1 228), (228, oc_aload 2 229), (229, oc_callv l B 8 m_Mo_thrown 0 232), (232, oc_iload 5 234), (234, oc_icmp_eq 239 237), (237, oc_ci (0) 238), (238, oc_iret .boolean), (239, oc_goto 1371)]
set_option maxRecDepth 20000 in
theorem ok_La_2 {l : Launch} {B : zd_B} (hG : zd_G B) (hl : l.stackTraces = false) : ∀ q ∈ cd_La_2 l B, zd_ok l B m_La_law q.1 q.2 := by
  unfold cd_La_2
  refine zd_ac (ok_aload_n (l := l) (B := B) (y := m_La_law) (pc := 206) (k := 1) rfl (zd_dr dc_La_2 0 rfl)) ?_
  refine zd_ac (ok_aload_n (l := l) (B := B) (y := m_La_law) (pc := 207) (k := 0) rfl (zd_dr dc_La_2 1 rfl)) ?_
  refine zd_ac (ok_iload (l := l) (B := B) (y := m_La_law) (pc := 208) (zd_dr dc_La_2 2 rfl)) ?_
  refine zd_ac (ok_iconst (l := l) (B := B) (y := m_La_law) (pc := 210) (n := (1)) (zd_dr dc_La_2 3 rfl) rfl) ?_
  refine zd_ac (ok_iadd (l := l) (B := B) (y := m_La_law) (pc := 211) (zd_dr dc_La_2 4 rfl)) ?_
  refine zd_ac (ok_iaload (l := l) (B := B) (y := m_La_law) (pc := 212) hG (zd_dr dc_La_2 5 rfl)) ?_
  refine zd_ac (ok_calls (l := l) (B := B) (y := m_La_law) (pc := 213) hG cf_La_law_La_read rfl (List.mem_of_getElem? (i := 287) (by decide +kernel)) (List.mem_of_getElem? (i := 288) (by decide +kernel)) (List.mem_of_getElem? (i := 55) (by decide +kernel)) (zd_dr dc_La_2 6 rfl)) ?_
  refine zd_ac (ok_istore (l := l) (B := B) (y := m_La_law) (pc := 216) (zd_dr dc_La_2 7 rfl) (by decide)) ?_
  refine zd_ac (ok_aload_n (l := l) (B := B) (y := m_La_law) (pc := 218) (k := 2) rfl (zd_dr dc_La_2 8 rfl)) ?_
  refine zd_ac (ok_aload_n (l := l) (B := B) (y := m_La_law) (pc := 219) (k := 0) rfl (zd_dr dc_La_2 9 rfl)) ?_
  refine zd_ac (ok_iload (l := l) (B := B) (y := m_La_law) (pc := 220) (zd_dr dc_La_2 10 rfl)) ?_
  refine zd_ac (ok_iconst (l := l) (B := B) (y := m_La_law) (pc := 222) (n := (1)) (zd_dr dc_La_2 11 rfl) rfl) ?_
  refine zd_ac (ok_iadd (l := l) (B := B) (y := m_La_law) (pc := 223) (zd_dr dc_La_2 12 rfl)) ?_
  refine zd_ac (ok_iaload (l := l) (B := B) (y := m_La_law) (pc := 224) hG (zd_dr dc_La_2 13 rfl)) ?_
  refine zd_ac (ok_callv (l := l) (B := B) (y := m_La_law) (pc := 225) hG (ci := 8) rfl cf_La_law_Mo_read rfl (List.mem_of_getElem? (i := 960) (by decide +kernel)) (List.mem_of_getElem? (i := 961) (by decide +kernel)) (List.mem_of_getElem? (i := 962) (by decide +kernel)) (zd_dr dc_La_2 14 rfl)) ?_
  refine zd_ac (ok_aload_n (l := l) (B := B) (y := m_La_law) (pc := 228) (k := 2) rfl (zd_dr dc_La_2 15 rfl)) ?_
  refine zd_ac (ok_callv (l := l) (B := B) (y := m_La_law) (pc := 229) hG (ci := 8) rfl cf_La_law_Mo_thrown rfl (List.mem_of_getElem? (i := 947) (by decide +kernel)) (List.mem_of_getElem? (i := 948) (by decide +kernel)) (List.mem_of_getElem? (i := 949) (by decide +kernel)) (zd_dr dc_La_2 16 rfl)) ?_
  refine zd_ac (ok_iload (l := l) (B := B) (y := m_La_law) (pc := 232) (zd_dr dc_La_2 17 rfl)) ?_
  refine zd_ac (ok_icmp_eq (l := l) (B := B) (y := m_La_law) (pc := 234) (zd_dr dc_La_2 18 rfl) (by decide)) ?_
  refine zd_ac (ok_iconst (l := l) (B := B) (y := m_La_law) (pc := 237) (n := (0)) (zd_dr dc_La_2 19 rfl) rfl) ?_
  refine zd_ac (ok_iret (l := l) (B := B) (y := m_La_law) (pc := 238) rfl (zd_dr dc_La_2 20 rfl)) ?_
  refine zd_ac (ok_goto (l := l) (B := B) (y := m_La_law) (pc := 239) (zd_dr dc_La_2 21 rfl) (by decide)) ?_
  exact zd_an
def dl_La_3 : List (Nat × Instr × Nat) := [(242, .aload_n 1, 1), (243, .aload_n 0, 1), (244, .iload 4, 2), (246, .iconst (1), 1), (247, .iadd, 1), (248, .iaload, 1), (249, .aload_n 0, 1), (250, .iload 4, 2), (252, .iconst (2), 1), (253, .iadd, 1), (254, .iaload, 1), (255, .i2l, 1), (256, .bipush (32), 2), (258, .lshl, 1), (259, .aload_n 0, 1), (260, .iload 4, 2), (262, .iconst (3), 1), (263, .iadd, 1), (264, .iaload, 1), (265, .i2l, 1), (266, .ldc2_w 80, 3), (269, .land, 1), (270, .lor, 1), (271, .aload_n 0, 1), (272, .iload 4, 2), (274, .iconst (4), 1), (275, .iadd, 1), (276, .iaload, 1), (277, .invokestatic 101, 3), (280, .istore 5, 2), (282, .aload_n 2, 1), (283, .aload_n 0, 1), (284, .iload 4, 2), (286, .iconst (1), 1), (287, .iadd, 1), (288, .iaload, 1), (289, .aload_n 0, 1), (290, .iload 4, 2), (292, .iconst (2), 1), (293, .iadd, 1), (294, .iaload, 1), (295, .i2l, 1), (296, .bipush (32), 2), (298, .lshl, 1), (299, .aload_n 0, 1), (300, .iload 4, 2), (302, .iconst (3), 1), (303, .iadd, 1), (304, .iaload, 1), (305, .i2l, 1), (306, .ldc2_w 80, 3), (309, .land, 1), (310, .lor, 1), (311, .aload_n 0, 1), (312, .iload 4, 2), (314, .iconst (4), 1), (315, .iadd, 1), (316, .iaload, 1), (317, .invokevirtual 104, 3), (320, .aload_n 2, 1), (321, .invokevirtual 98, 3), (324, .iload 5, 2), (326, .if_icmp .eq (5), 3), (329, .iconst (0), 1), (330, .ireturn, 1), (331, .goto (1040), 3)]
theorem dc_La_3 : ∀ q ∈ dl_La_3, decode (zd_yb m_La_law) q.1 = .ok q.2 := by decide +kernel
def cd_La_3 (l : Launch) (B : zd_B) : List (Nat × zd_S) := [(242, oc_aload 1 243), (243, oc_aload 0 244), (244, oc_iload 4 246), (246, oc_ci (1) 247), (247, oc_iadd 248), (248, oc_iaload B 249), (249, oc_aload 0 250), (250, oc_iload 4 252), (252, oc_ci (2) 253), (253, oc_iadd 254), (254, oc_iaload B 255), (255, oc_i2l 256), (256, oc_ci (32) 258), (258, oc_lshl 259), (259, oc_aload 0 260), (260, oc_iload 4 262), (262, oc_ci (3) 263), (263, oc_iadd 264), (264, oc_iaload B 265), (265, oc_i2l 266), (266, oc_cl (4294967295) 269), (269, oc_land 270), (270, oc_lor 271), (271, oc_aload 0 272), (272, oc_iload 4 274), (274, oc_ci (4) 275), (275, oc_iadd 276), (276, oc_iaload B 277), (277, oc_calls l B m_La_put 4 280), (280, oc_istore 5 282), (282, oc_aload 2 283), (283, oc_aload 0 284), (284, oc_iload 4 286), (286, oc_ci (1) 287), (287, oc_iadd 288), (288, oc_iaload B 289), (289, oc_aload 0 290), (290, oc_iload 4 292), (292, oc_ci (2) 293), (293, oc_iadd 294), (294, oc_iaload B 295), (295, oc_i2l 296), (296, oc_ci (32) 298), (298, oc_lshl 299), (299, oc_aload 0 300), (300, oc_iload 4 302), (302, oc_ci (3) 303), (303, oc_iadd 304), (304, oc_iaload B 305), (305, oc_i2l 306), (306, oc_cl (4294967295) 309), (309, oc_land 310), (310, oc_lor 311), (311, oc_aload 0 312), (312, oc_iload 4 314), (314, oc_ci (4) 315), (315, oc_iadd 316), (316, oc_iaload B 317), (317, oc_callv l B 8 m_Mo_put 3 320), (320, oc_aload 2 321), (321, oc_callv l B 8 m_Mo_thrown 0 324), (324, oc_iload 5 326), (326, oc_icmp_eq 331 329), (329, oc_ci (0) 330), (330, oc_iret .boolean), (331, oc_goto 1371)]
set_option maxRecDepth 20000 in
theorem ok_La_3 {l : Launch} {B : zd_B} (hG : zd_G B) (hl : l.stackTraces = false) : ∀ q ∈ cd_La_3 l B, zd_ok l B m_La_law q.1 q.2 := by
  unfold cd_La_3
  refine zd_ac (ok_aload_n (l := l) (B := B) (y := m_La_law) (pc := 242) (k := 1) rfl (zd_dr dc_La_3 0 rfl)) ?_
  refine zd_ac (ok_aload_n (l := l) (B := B) (y := m_La_law) (pc := 243) (k := 0) rfl (zd_dr dc_La_3 1 rfl)) ?_
  refine zd_ac (ok_iload (l := l) (B := B) (y := m_La_law) (pc := 244) (zd_dr dc_La_3 2 rfl)) ?_
  refine zd_ac (ok_iconst (l := l) (B := B) (y := m_La_law) (pc := 246) (n := (1)) (zd_dr dc_La_3 3 rfl) rfl) ?_
  refine zd_ac (ok_iadd (l := l) (B := B) (y := m_La_law) (pc := 247) (zd_dr dc_La_3 4 rfl)) ?_
  refine zd_ac (ok_iaload (l := l) (B := B) (y := m_La_law) (pc := 248) hG (zd_dr dc_La_3 5 rfl)) ?_
  refine zd_ac (ok_aload_n (l := l) (B := B) (y := m_La_law) (pc := 249) (k := 0) rfl (zd_dr dc_La_3 6 rfl)) ?_
  refine zd_ac (ok_iload (l := l) (B := B) (y := m_La_law) (pc := 250) (zd_dr dc_La_3 7 rfl)) ?_
  refine zd_ac (ok_iconst (l := l) (B := B) (y := m_La_law) (pc := 252) (n := (2)) (zd_dr dc_La_3 8 rfl) rfl) ?_
  refine zd_ac (ok_iadd (l := l) (B := B) (y := m_La_law) (pc := 253) (zd_dr dc_La_3 9 rfl)) ?_
  refine zd_ac (ok_iaload (l := l) (B := B) (y := m_La_law) (pc := 254) hG (zd_dr dc_La_3 10 rfl)) ?_
  refine zd_ac (ok_i2l (l := l) (B := B) (y := m_La_law) (pc := 255) (zd_dr dc_La_3 11 rfl)) ?_
  refine zd_ac (ok_bipush (l := l) (B := B) (y := m_La_law) (pc := 256) (n := (32)) (zd_dr dc_La_3 12 rfl) rfl) ?_
  refine zd_ac (ok_lshl (l := l) (B := B) (y := m_La_law) (pc := 258) (zd_dr dc_La_3 13 rfl)) ?_
  refine zd_ac (ok_aload_n (l := l) (B := B) (y := m_La_law) (pc := 259) (k := 0) rfl (zd_dr dc_La_3 14 rfl)) ?_
  refine zd_ac (ok_iload (l := l) (B := B) (y := m_La_law) (pc := 260) (zd_dr dc_La_3 15 rfl)) ?_
  refine zd_ac (ok_iconst (l := l) (B := B) (y := m_La_law) (pc := 262) (n := (3)) (zd_dr dc_La_3 16 rfl) rfl) ?_
  refine zd_ac (ok_iadd (l := l) (B := B) (y := m_La_law) (pc := 263) (zd_dr dc_La_3 17 rfl)) ?_
  refine zd_ac (ok_iaload (l := l) (B := B) (y := m_La_law) (pc := 264) hG (zd_dr dc_La_3 18 rfl)) ?_
  refine zd_ac (ok_i2l (l := l) (B := B) (y := m_La_law) (pc := 265) (zd_dr dc_La_3 19 rfl)) ?_
  refine zd_ac (ok_ldc2 (l := l) (B := B) (y := m_La_law) (pc := 266) hG (List.mem_of_getElem? (i := 1163) (by decide +kernel)) (zd_dr dc_La_3 20 rfl)) ?_
  refine zd_ac (ok_land (l := l) (B := B) (y := m_La_law) (pc := 269) (zd_dr dc_La_3 21 rfl)) ?_
  refine zd_ac (ok_lor (l := l) (B := B) (y := m_La_law) (pc := 270) (zd_dr dc_La_3 22 rfl)) ?_
  refine zd_ac (ok_aload_n (l := l) (B := B) (y := m_La_law) (pc := 271) (k := 0) rfl (zd_dr dc_La_3 23 rfl)) ?_
  refine zd_ac (ok_iload (l := l) (B := B) (y := m_La_law) (pc := 272) (zd_dr dc_La_3 24 rfl)) ?_
  refine zd_ac (ok_iconst (l := l) (B := B) (y := m_La_law) (pc := 274) (n := (4)) (zd_dr dc_La_3 25 rfl) rfl) ?_
  refine zd_ac (ok_iadd (l := l) (B := B) (y := m_La_law) (pc := 275) (zd_dr dc_La_3 26 rfl)) ?_
  refine zd_ac (ok_iaload (l := l) (B := B) (y := m_La_law) (pc := 276) hG (zd_dr dc_La_3 27 rfl)) ?_
  refine zd_ac (ok_calls (l := l) (B := B) (y := m_La_law) (pc := 277) hG cf_La_law_La_put rfl (List.mem_of_getElem? (i := 493) (by decide +kernel)) (List.mem_of_getElem? (i := 494) (by decide +kernel)) (List.mem_of_getElem? (i := 55) (by decide +kernel)) (zd_dr dc_La_3 28 rfl)) ?_
  refine zd_ac (ok_istore (l := l) (B := B) (y := m_La_law) (pc := 280) (zd_dr dc_La_3 29 rfl) (by decide)) ?_
  refine zd_ac (ok_aload_n (l := l) (B := B) (y := m_La_law) (pc := 282) (k := 2) rfl (zd_dr dc_La_3 30 rfl)) ?_
  refine zd_ac (ok_aload_n (l := l) (B := B) (y := m_La_law) (pc := 283) (k := 0) rfl (zd_dr dc_La_3 31 rfl)) ?_
  refine zd_ac (ok_iload (l := l) (B := B) (y := m_La_law) (pc := 284) (zd_dr dc_La_3 32 rfl)) ?_
  refine zd_ac (ok_iconst (l := l) (B := B) (y := m_La_law) (pc := 286) (n := (1)) (zd_dr dc_La_3 33 rfl) rfl) ?_
  refine zd_ac (ok_iadd (l := l) (B := B) (y := m_La_law) (pc := 287) (zd_dr dc_La_3 34 rfl)) ?_
  refine zd_ac (ok_iaload (l := l) (B := B) (y := m_La_law) (pc := 288) hG (zd_dr dc_La_3 35 rfl)) ?_
  refine zd_ac (ok_aload_n (l := l) (B := B) (y := m_La_law) (pc := 289) (k := 0) rfl (zd_dr dc_La_3 36 rfl)) ?_
  refine zd_ac (ok_iload (l := l) (B := B) (y := m_La_law) (pc := 290) (zd_dr dc_La_3 37 rfl)) ?_
  refine zd_ac (ok_iconst (l := l) (B := B) (y := m_La_law) (pc := 292) (n := (2)) (zd_dr dc_La_3 38 rfl) rfl) ?_
  refine zd_ac (ok_iadd (l := l) (B := B) (y := m_La_law) (pc := 293) (zd_dr dc_La_3 39 rfl)) ?_
  refine zd_ac (ok_iaload (l := l) (B := B) (y := m_La_law) (pc := 294) hG (zd_dr dc_La_3 40 rfl)) ?_
  refine zd_ac (ok_i2l (l := l) (B := B) (y := m_La_law) (pc := 295) (zd_dr dc_La_3 41 rfl)) ?_
  refine zd_ac (ok_bipush (l := l) (B := B) (y := m_La_law) (pc := 296) (n := (32)) (zd_dr dc_La_3 42 rfl) rfl) ?_
  refine zd_ac (ok_lshl (l := l) (B := B) (y := m_La_law) (pc := 298) (zd_dr dc_La_3 43 rfl)) ?_
  refine zd_ac (ok_aload_n (l := l) (B := B) (y := m_La_law) (pc := 299) (k := 0) rfl (zd_dr dc_La_3 44 rfl)) ?_
  refine zd_ac (ok_iload (l := l) (B := B) (y := m_La_law) (pc := 300) (zd_dr dc_La_3 45 rfl)) ?_
  refine zd_ac (ok_iconst (l := l) (B := B) (y := m_La_law) (pc := 302) (n := (3)) (zd_dr dc_La_3 46 rfl) rfl) ?_
  refine zd_ac (ok_iadd (l := l) (B := B) (y := m_La_law) (pc := 303) (zd_dr dc_La_3 47 rfl)) ?_
  refine zd_ac (ok_iaload (l := l) (B := B) (y := m_La_law) (pc := 304) hG (zd_dr dc_La_3 48 rfl)) ?_
  refine zd_ac (ok_i2l (l := l) (B := B) (y := m_La_law) (pc := 305) (zd_dr dc_La_3 49 rfl)) ?_
  refine zd_ac (ok_ldc2 (l := l) (B := B) (y := m_La_law) (pc := 306) hG (List.mem_of_getElem? (i := 1163) (by decide +kernel)) (zd_dr dc_La_3 50 rfl)) ?_
  refine zd_ac (ok_land (l := l) (B := B) (y := m_La_law) (pc := 309) (zd_dr dc_La_3 51 rfl)) ?_
  refine zd_ac (ok_lor (l := l) (B := B) (y := m_La_law) (pc := 310) (zd_dr dc_La_3 52 rfl)) ?_
  refine zd_ac (ok_aload_n (l := l) (B := B) (y := m_La_law) (pc := 311) (k := 0) rfl (zd_dr dc_La_3 53 rfl)) ?_
  refine zd_ac (ok_iload (l := l) (B := B) (y := m_La_law) (pc := 312) (zd_dr dc_La_3 54 rfl)) ?_
  refine zd_ac (ok_iconst (l := l) (B := B) (y := m_La_law) (pc := 314) (n := (4)) (zd_dr dc_La_3 55 rfl) rfl) ?_
  refine zd_ac (ok_iadd (l := l) (B := B) (y := m_La_law) (pc := 315) (zd_dr dc_La_3 56 rfl)) ?_
  refine zd_ac (ok_iaload (l := l) (B := B) (y := m_La_law) (pc := 316) hG (zd_dr dc_La_3 57 rfl)) ?_
  refine zd_ac (ok_callv (l := l) (B := B) (y := m_La_law) (pc := 317) hG (ci := 8) rfl cf_La_law_Mo_put rfl (List.mem_of_getElem? (i := 990) (by decide +kernel)) (List.mem_of_getElem? (i := 991) (by decide +kernel)) (List.mem_of_getElem? (i := 992) (by decide +kernel)) (zd_dr dc_La_3 58 rfl)) ?_
  refine zd_ac (ok_aload_n (l := l) (B := B) (y := m_La_law) (pc := 320) (k := 2) rfl (zd_dr dc_La_3 59 rfl)) ?_
  refine zd_ac (ok_callv (l := l) (B := B) (y := m_La_law) (pc := 321) hG (ci := 8) rfl cf_La_law_Mo_thrown rfl (List.mem_of_getElem? (i := 947) (by decide +kernel)) (List.mem_of_getElem? (i := 948) (by decide +kernel)) (List.mem_of_getElem? (i := 949) (by decide +kernel)) (zd_dr dc_La_3 60 rfl)) ?_
  refine zd_ac (ok_iload (l := l) (B := B) (y := m_La_law) (pc := 324) (zd_dr dc_La_3 61 rfl)) ?_
  refine zd_ac (ok_icmp_eq (l := l) (B := B) (y := m_La_law) (pc := 326) (zd_dr dc_La_3 62 rfl) (by decide)) ?_
  refine zd_ac (ok_iconst (l := l) (B := B) (y := m_La_law) (pc := 329) (n := (0)) (zd_dr dc_La_3 63 rfl) rfl) ?_
  refine zd_ac (ok_iret (l := l) (B := B) (y := m_La_law) (pc := 330) rfl (zd_dr dc_La_3 64 rfl)) ?_
  refine zd_ac (ok_goto (l := l) (B := B) (y := m_La_law) (pc := 331) (zd_dr dc_La_3 65 rfl) (by decide)) ?_
  exact zd_an
def dl_La_4 : List (Nat × Instr × Nat) := [(334, .aload_n 1, 1), (335, .aload_n 0, 1), (336, .iload 4, 2), (338, .iconst (1), 1), (339, .iadd, 1), (340, .iaload, 1), (341, .aload_n 0, 1), (342, .iload 4, 2), (344, .iconst (2), 1), (345, .iadd, 1), (346, .iaload, 1), (347, .aload_n 0, 1), (348, .iload 4, 2), (350, .iconst (3), 1), (351, .iadd, 1), (352, .iaload, 1), (353, .aload_n 0, 1), (354, .iload 4, 2), (356, .iconst (4), 1), (357, .iadd, 1), (358, .iaload, 1), (359, .ifCond .eq (7), 3), (362, .iconst (1), 1), (363, .goto (4), 3), (366, .iconst (0), 1), (367, .invokestatic 105, 3), (370, .istore 5, 2), (372, .aload_n 2, 1), (373, .aload_n 0, 1), (374, .iload 4, 2), (376, .iconst (1), 1), (377, .iadd, 1), (378, .iaload, 1), (379, .aload_n 0, 1), (380, .iload 4, 2), (382, .iconst (2), 1), (383, .iadd, 1), (384, .iaload, 1), (385, .aload_n 0, 1), (386, .iload 4, 2), (388, .iconst (3), 1), (389, .iadd, 1), (390, .iaload, 1), (391, .aload_n 0, 1), (392, .iload 4, 2), (394, .iconst (4), 1), (395, .iadd, 1), (396, .iaload, 1), (397, .ifCond .eq (7), 3), (400, .iconst (1), 1), (401, .goto (4), 3), (404, .iconst (0), 1), (405, .invokevirtual 108, 3), (408, .aload_n 2, 1), (409, .invokevirtual 98, 3), (412, .iload 5, 2), (414, .if_icmp .eq (5), 3), (417, .iconst (0), 1), (418, .ireturn, 1), (419, .goto (952), 3)]
theorem dc_La_4 : ∀ q ∈ dl_La_4, decode (zd_yb m_La_law) q.1 = .ok q.2 := by decide +kernel
def cd_La_4 (l : Launch) (B : zd_B) : List (Nat × zd_S) := [(334, oc_aload 1 335), (335, oc_aload 0 336), (336, oc_iload 4 338), (338, oc_ci (1) 339), (339, oc_iadd 340), (340, oc_iaload B 341), (341, oc_aload 0 342), (342, oc_iload 4 344), (344, oc_ci (2) 345), (345, oc_iadd 346), (346, oc_iaload B 347), (347, oc_aload 0 348), (348, oc_iload 4 350), (350, oc_ci (3) 351), (351, oc_iadd 352), (352, oc_iaload B 353), (353, oc_aload 0 354), (354, oc_iload 4 356), (356, oc_ci (4) 357), (357, oc_iadd 358), (358, oc_iaload B 359), (359, oc_if_eq 366 362), (362, oc_ci (1) 363), (363, oc_goto 367), (366, oc_ci (0) 367), (367, oc_calls l B m_La_add 5 370), (370, oc_istore 5 372), (372, oc_aload 2 373), (373, oc_aload 0 374), (374, oc_iload 4 376), (376, oc_ci (1) 377), (377, oc_iadd 378), (378, oc_iaload B 379), (379, oc_aload 0 380), (380, oc_iload 4 382), (382, oc_ci (2) 383), (383, oc_iadd 384), (384, oc_iaload B 385), (385, oc_aload 0 386), (386, oc_iload 4 388), (388, oc_ci (3) 389), (389, oc_iadd 390), (390, oc_iaload B 391), (391, oc_aload 0 392), (392, oc_iload 4 394), (394, oc_ci (4) 395), (395, oc_iadd 396), (396, oc_iaload B 397), (397, oc_if_eq 404 400), (400, oc_ci (1) 401), (401, oc_goto 405), (404, oc_ci (0) 405), (405, oc_callv l B 8 m_Mo_add 4 408), (408, oc_aload 2 409), (409, oc_callv l B 8 m_Mo_thrown 0 412), (412, oc_iload 5 414), (414, oc_icmp_eq 419 417), (417, oc_ci (0) 418), (418, oc_iret .boolean), (419, oc_goto 1371)]
set_option maxRecDepth 20000 in
theorem ok_La_4 {l : Launch} {B : zd_B} (hG : zd_G B) (hl : l.stackTraces = false) : ∀ q ∈ cd_La_4 l B, zd_ok l B m_La_law q.1 q.2 := by
  unfold cd_La_4
  refine zd_ac (ok_aload_n (l := l) (B := B) (y := m_La_law) (pc := 334) (k := 1) rfl (zd_dr dc_La_4 0 rfl)) ?_
  refine zd_ac (ok_aload_n (l := l) (B := B) (y := m_La_law) (pc := 335) (k := 0) rfl (zd_dr dc_La_4 1 rfl)) ?_
  refine zd_ac (ok_iload (l := l) (B := B) (y := m_La_law) (pc := 336) (zd_dr dc_La_4 2 rfl)) ?_
  refine zd_ac (ok_iconst (l := l) (B := B) (y := m_La_law) (pc := 338) (n := (1)) (zd_dr dc_La_4 3 rfl) rfl) ?_
  refine zd_ac (ok_iadd (l := l) (B := B) (y := m_La_law) (pc := 339) (zd_dr dc_La_4 4 rfl)) ?_
  refine zd_ac (ok_iaload (l := l) (B := B) (y := m_La_law) (pc := 340) hG (zd_dr dc_La_4 5 rfl)) ?_
  refine zd_ac (ok_aload_n (l := l) (B := B) (y := m_La_law) (pc := 341) (k := 0) rfl (zd_dr dc_La_4 6 rfl)) ?_
  refine zd_ac (ok_iload (l := l) (B := B) (y := m_La_law) (pc := 342) (zd_dr dc_La_4 7 rfl)) ?_
  refine zd_ac (ok_iconst (l := l) (B := B) (y := m_La_law) (pc := 344) (n := (2)) (zd_dr dc_La_4 8 rfl) rfl) ?_
  refine zd_ac (ok_iadd (l := l) (B := B) (y := m_La_law) (pc := 345) (zd_dr dc_La_4 9 rfl)) ?_
  refine zd_ac (ok_iaload (l := l) (B := B) (y := m_La_law) (pc := 346) hG (zd_dr dc_La_4 10 rfl)) ?_
  refine zd_ac (ok_aload_n (l := l) (B := B) (y := m_La_law) (pc := 347) (k := 0) rfl (zd_dr dc_La_4 11 rfl)) ?_
  refine zd_ac (ok_iload (l := l) (B := B) (y := m_La_law) (pc := 348) (zd_dr dc_La_4 12 rfl)) ?_
  refine zd_ac (ok_iconst (l := l) (B := B) (y := m_La_law) (pc := 350) (n := (3)) (zd_dr dc_La_4 13 rfl) rfl) ?_
  refine zd_ac (ok_iadd (l := l) (B := B) (y := m_La_law) (pc := 351) (zd_dr dc_La_4 14 rfl)) ?_
  refine zd_ac (ok_iaload (l := l) (B := B) (y := m_La_law) (pc := 352) hG (zd_dr dc_La_4 15 rfl)) ?_
  refine zd_ac (ok_aload_n (l := l) (B := B) (y := m_La_law) (pc := 353) (k := 0) rfl (zd_dr dc_La_4 16 rfl)) ?_
  refine zd_ac (ok_iload (l := l) (B := B) (y := m_La_law) (pc := 354) (zd_dr dc_La_4 17 rfl)) ?_
  refine zd_ac (ok_iconst (l := l) (B := B) (y := m_La_law) (pc := 356) (n := (4)) (zd_dr dc_La_4 18 rfl) rfl) ?_
  refine zd_ac (ok_iadd (l := l) (B := B) (y := m_La_law) (pc := 357) (zd_dr dc_La_4 19 rfl)) ?_
  refine zd_ac (ok_iaload (l := l) (B := B) (y := m_La_law) (pc := 358) hG (zd_dr dc_La_4 20 rfl)) ?_
  refine zd_ac (ok_if_eq (l := l) (B := B) (y := m_La_law) (pc := 359) (zd_dr dc_La_4 21 rfl) (by decide)) ?_
  refine zd_ac (ok_iconst (l := l) (B := B) (y := m_La_law) (pc := 362) (n := (1)) (zd_dr dc_La_4 22 rfl) rfl) ?_
  refine zd_ac (ok_goto (l := l) (B := B) (y := m_La_law) (pc := 363) (zd_dr dc_La_4 23 rfl) (by decide)) ?_
  refine zd_ac (ok_iconst (l := l) (B := B) (y := m_La_law) (pc := 366) (n := (0)) (zd_dr dc_La_4 24 rfl) rfl) ?_
  refine zd_ac (ok_calls (l := l) (B := B) (y := m_La_law) (pc := 367) hG cf_La_law_La_add rfl (List.mem_of_getElem? (i := 506) (by decide +kernel)) (List.mem_of_getElem? (i := 507) (by decide +kernel)) (List.mem_of_getElem? (i := 55) (by decide +kernel)) (zd_dr dc_La_4 25 rfl)) ?_
  refine zd_ac (ok_istore (l := l) (B := B) (y := m_La_law) (pc := 370) (zd_dr dc_La_4 26 rfl) (by decide)) ?_
  refine zd_ac (ok_aload_n (l := l) (B := B) (y := m_La_law) (pc := 372) (k := 2) rfl (zd_dr dc_La_4 27 rfl)) ?_
  refine zd_ac (ok_aload_n (l := l) (B := B) (y := m_La_law) (pc := 373) (k := 0) rfl (zd_dr dc_La_4 28 rfl)) ?_
  refine zd_ac (ok_iload (l := l) (B := B) (y := m_La_law) (pc := 374) (zd_dr dc_La_4 29 rfl)) ?_
  refine zd_ac (ok_iconst (l := l) (B := B) (y := m_La_law) (pc := 376) (n := (1)) (zd_dr dc_La_4 30 rfl) rfl) ?_
  refine zd_ac (ok_iadd (l := l) (B := B) (y := m_La_law) (pc := 377) (zd_dr dc_La_4 31 rfl)) ?_
  refine zd_ac (ok_iaload (l := l) (B := B) (y := m_La_law) (pc := 378) hG (zd_dr dc_La_4 32 rfl)) ?_
  refine zd_ac (ok_aload_n (l := l) (B := B) (y := m_La_law) (pc := 379) (k := 0) rfl (zd_dr dc_La_4 33 rfl)) ?_
  refine zd_ac (ok_iload (l := l) (B := B) (y := m_La_law) (pc := 380) (zd_dr dc_La_4 34 rfl)) ?_
  refine zd_ac (ok_iconst (l := l) (B := B) (y := m_La_law) (pc := 382) (n := (2)) (zd_dr dc_La_4 35 rfl) rfl) ?_
  refine zd_ac (ok_iadd (l := l) (B := B) (y := m_La_law) (pc := 383) (zd_dr dc_La_4 36 rfl)) ?_
  refine zd_ac (ok_iaload (l := l) (B := B) (y := m_La_law) (pc := 384) hG (zd_dr dc_La_4 37 rfl)) ?_
  refine zd_ac (ok_aload_n (l := l) (B := B) (y := m_La_law) (pc := 385) (k := 0) rfl (zd_dr dc_La_4 38 rfl)) ?_
  refine zd_ac (ok_iload (l := l) (B := B) (y := m_La_law) (pc := 386) (zd_dr dc_La_4 39 rfl)) ?_
  refine zd_ac (ok_iconst (l := l) (B := B) (y := m_La_law) (pc := 388) (n := (3)) (zd_dr dc_La_4 40 rfl) rfl) ?_
  refine zd_ac (ok_iadd (l := l) (B := B) (y := m_La_law) (pc := 389) (zd_dr dc_La_4 41 rfl)) ?_
  refine zd_ac (ok_iaload (l := l) (B := B) (y := m_La_law) (pc := 390) hG (zd_dr dc_La_4 42 rfl)) ?_
  refine zd_ac (ok_aload_n (l := l) (B := B) (y := m_La_law) (pc := 391) (k := 0) rfl (zd_dr dc_La_4 43 rfl)) ?_
  refine zd_ac (ok_iload (l := l) (B := B) (y := m_La_law) (pc := 392) (zd_dr dc_La_4 44 rfl)) ?_
  refine zd_ac (ok_iconst (l := l) (B := B) (y := m_La_law) (pc := 394) (n := (4)) (zd_dr dc_La_4 45 rfl) rfl) ?_
  refine zd_ac (ok_iadd (l := l) (B := B) (y := m_La_law) (pc := 395) (zd_dr dc_La_4 46 rfl)) ?_
  refine zd_ac (ok_iaload (l := l) (B := B) (y := m_La_law) (pc := 396) hG (zd_dr dc_La_4 47 rfl)) ?_
  refine zd_ac (ok_if_eq (l := l) (B := B) (y := m_La_law) (pc := 397) (zd_dr dc_La_4 48 rfl) (by decide)) ?_
  refine zd_ac (ok_iconst (l := l) (B := B) (y := m_La_law) (pc := 400) (n := (1)) (zd_dr dc_La_4 49 rfl) rfl) ?_
  refine zd_ac (ok_goto (l := l) (B := B) (y := m_La_law) (pc := 401) (zd_dr dc_La_4 50 rfl) (by decide)) ?_
  refine zd_ac (ok_iconst (l := l) (B := B) (y := m_La_law) (pc := 404) (n := (0)) (zd_dr dc_La_4 51 rfl) rfl) ?_
  refine zd_ac (ok_callv (l := l) (B := B) (y := m_La_law) (pc := 405) hG (ci := 8) rfl cf_La_law_Mo_add rfl (List.mem_of_getElem? (i := 1006) (by decide +kernel)) (List.mem_of_getElem? (i := 1007) (by decide +kernel)) (List.mem_of_getElem? (i := 1008) (by decide +kernel)) (zd_dr dc_La_4 52 rfl)) ?_
  refine zd_ac (ok_aload_n (l := l) (B := B) (y := m_La_law) (pc := 408) (k := 2) rfl (zd_dr dc_La_4 53 rfl)) ?_
  refine zd_ac (ok_callv (l := l) (B := B) (y := m_La_law) (pc := 409) hG (ci := 8) rfl cf_La_law_Mo_thrown rfl (List.mem_of_getElem? (i := 947) (by decide +kernel)) (List.mem_of_getElem? (i := 948) (by decide +kernel)) (List.mem_of_getElem? (i := 949) (by decide +kernel)) (zd_dr dc_La_4 54 rfl)) ?_
  refine zd_ac (ok_iload (l := l) (B := B) (y := m_La_law) (pc := 412) (zd_dr dc_La_4 55 rfl)) ?_
  refine zd_ac (ok_icmp_eq (l := l) (B := B) (y := m_La_law) (pc := 414) (zd_dr dc_La_4 56 rfl) (by decide)) ?_
  refine zd_ac (ok_iconst (l := l) (B := B) (y := m_La_law) (pc := 417) (n := (0)) (zd_dr dc_La_4 57 rfl) rfl) ?_
  refine zd_ac (ok_iret (l := l) (B := B) (y := m_La_law) (pc := 418) rfl (zd_dr dc_La_4 58 rfl)) ?_
  refine zd_ac (ok_goto (l := l) (B := B) (y := m_La_law) (pc := 419) (zd_dr dc_La_4 59 rfl) (by decide)) ?_
  exact zd_an
def dl_La_5 : List (Nat × Instr × Nat) := [(422, .aload_n 1, 1), (423, .aload_n 0, 1), (424, .iload 4, 2), (426, .iconst (1), 1), (427, .iadd, 1), (428, .iaload, 1), (429, .aload_n 0, 1), (430, .iload 4, 2), (432, .iconst (2), 1), (433, .iadd, 1), (434, .iaload, 1), (435, .aload_n 0, 1), (436, .iload 4, 2), (438, .iconst (3), 1), (439, .iadd, 1), (440, .iaload, 1), (441, .invokestatic 109, 3), (444, .istore 5, 2), (446, .aload_n 2, 1), (447, .aload_n 0, 1), (448, .iload 4, 2), (450, .iconst (1), 1), (451, .iadd, 1), (452, .iaload, 1), (453, .aload_n 0, 1), (454, .iload 4, 2), (456, .iconst (2), 1), (457, .iadd, 1), (458, .iaload, 1), (459, .aload_n 0, 1), (460, .iload 4, 2), (462, .iconst (3), 1), (463, .iadd, 1), (464, .iaload, 1), (465, .invokevirtual 112, 3), (468, .aload_n 2, 1), (469, .invokevirtual 98, 3), (472, .iload 5, 2), (474, .if_icmp .eq (5), 3), (477, .iconst (0), 1), (478, .ireturn, 1), (479, .goto (892), 3)]
theorem dc_La_5 : ∀ q ∈ dl_La_5, decode (zd_yb m_La_law) q.1 = .ok q.2 := by decide +kernel
def cd_La_5 (l : Launch) (B : zd_B) : List (Nat × zd_S) := [(422, oc_aload 1 423), (423, oc_aload 0 424), (424, oc_iload 4 426), (426, oc_ci (1) 427), (427, oc_iadd 428), (428, oc_iaload B 429), (429, oc_aload 0 430), (430, oc_iload 4 432), (432, oc_ci (2) 433), (433, oc_iadd 434), (434, oc_iaload B 435), (435, oc_aload 0 436), (436, oc_iload 4 438), (438, oc_ci (3) 439), (439, oc_iadd 440), (440, oc_iaload B 441), (441, oc_calls l B m_La_multiply 4 444), (444, oc_istore 5 446), (446, oc_aload 2 447), (447, oc_aload 0 448), (448, oc_iload 4 450), (450, oc_ci (1) 451), (451, oc_iadd 452), (452, oc_iaload B 453), (453, oc_aload 0 454), (454, oc_iload 4 456), (456, oc_ci (2) 457), (457, oc_iadd 458), (458, oc_iaload B 459), (459, oc_aload 0 460), (460, oc_iload 4 462), (462, oc_ci (3) 463), (463, oc_iadd 464), (464, oc_iaload B 465), (465, oc_callv l B 8 m_Mo_multiply 3 468), (468, oc_aload 2 469), (469, oc_callv l B 8 m_Mo_thrown 0 472), (472, oc_iload 5 474), (474, oc_icmp_eq 479 477), (477, oc_ci (0) 478), (478, oc_iret .boolean), (479, oc_goto 1371)]
set_option maxRecDepth 20000 in
theorem ok_La_5 {l : Launch} {B : zd_B} (hG : zd_G B) (hl : l.stackTraces = false) : ∀ q ∈ cd_La_5 l B, zd_ok l B m_La_law q.1 q.2 := by
  unfold cd_La_5
  refine zd_ac (ok_aload_n (l := l) (B := B) (y := m_La_law) (pc := 422) (k := 1) rfl (zd_dr dc_La_5 0 rfl)) ?_
  refine zd_ac (ok_aload_n (l := l) (B := B) (y := m_La_law) (pc := 423) (k := 0) rfl (zd_dr dc_La_5 1 rfl)) ?_
  refine zd_ac (ok_iload (l := l) (B := B) (y := m_La_law) (pc := 424) (zd_dr dc_La_5 2 rfl)) ?_
  refine zd_ac (ok_iconst (l := l) (B := B) (y := m_La_law) (pc := 426) (n := (1)) (zd_dr dc_La_5 3 rfl) rfl) ?_
  refine zd_ac (ok_iadd (l := l) (B := B) (y := m_La_law) (pc := 427) (zd_dr dc_La_5 4 rfl)) ?_
  refine zd_ac (ok_iaload (l := l) (B := B) (y := m_La_law) (pc := 428) hG (zd_dr dc_La_5 5 rfl)) ?_
  refine zd_ac (ok_aload_n (l := l) (B := B) (y := m_La_law) (pc := 429) (k := 0) rfl (zd_dr dc_La_5 6 rfl)) ?_
  refine zd_ac (ok_iload (l := l) (B := B) (y := m_La_law) (pc := 430) (zd_dr dc_La_5 7 rfl)) ?_
  refine zd_ac (ok_iconst (l := l) (B := B) (y := m_La_law) (pc := 432) (n := (2)) (zd_dr dc_La_5 8 rfl) rfl) ?_
  refine zd_ac (ok_iadd (l := l) (B := B) (y := m_La_law) (pc := 433) (zd_dr dc_La_5 9 rfl)) ?_
  refine zd_ac (ok_iaload (l := l) (B := B) (y := m_La_law) (pc := 434) hG (zd_dr dc_La_5 10 rfl)) ?_
  refine zd_ac (ok_aload_n (l := l) (B := B) (y := m_La_law) (pc := 435) (k := 0) rfl (zd_dr dc_La_5 11 rfl)) ?_
  refine zd_ac (ok_iload (l := l) (B := B) (y := m_La_law) (pc := 436) (zd_dr dc_La_5 12 rfl)) ?_
  refine zd_ac (ok_iconst (l := l) (B := B) (y := m_La_law) (pc := 438) (n := (3)) (zd_dr dc_La_5 13 rfl) rfl) ?_
  refine zd_ac (ok_iadd (l := l) (B := B) (y := m_La_law) (pc := 439) (zd_dr dc_La_5 14 rfl)) ?_
  refine zd_ac (ok_iaload (l := l) (B := B) (y := m_La_law) (pc := 440) hG (zd_dr dc_La_5 15 rfl)) ?_
  refine zd_ac (ok_calls (l := l) (B := B) (y := m_La_law) (pc := 441) hG cf_La_law_La_multiply rfl (List.mem_of_getElem? (i := 572) (by decide +kernel)) (List.mem_of_getElem? (i := 573) (by decide +kernel)) (List.mem_of_getElem? (i := 55) (by decide +kernel)) (zd_dr dc_La_5 16 rfl)) ?_
  refine zd_ac (ok_istore (l := l) (B := B) (y := m_La_law) (pc := 444) (zd_dr dc_La_5 17 rfl) (by decide)) ?_
  refine zd_ac (ok_aload_n (l := l) (B := B) (y := m_La_law) (pc := 446) (k := 2) rfl (zd_dr dc_La_5 18 rfl)) ?_
  refine zd_ac (ok_aload_n (l := l) (B := B) (y := m_La_law) (pc := 447) (k := 0) rfl (zd_dr dc_La_5 19 rfl)) ?_
  refine zd_ac (ok_iload (l := l) (B := B) (y := m_La_law) (pc := 448) (zd_dr dc_La_5 20 rfl)) ?_
  refine zd_ac (ok_iconst (l := l) (B := B) (y := m_La_law) (pc := 450) (n := (1)) (zd_dr dc_La_5 21 rfl) rfl) ?_
  refine zd_ac (ok_iadd (l := l) (B := B) (y := m_La_law) (pc := 451) (zd_dr dc_La_5 22 rfl)) ?_
  refine zd_ac (ok_iaload (l := l) (B := B) (y := m_La_law) (pc := 452) hG (zd_dr dc_La_5 23 rfl)) ?_
  refine zd_ac (ok_aload_n (l := l) (B := B) (y := m_La_law) (pc := 453) (k := 0) rfl (zd_dr dc_La_5 24 rfl)) ?_
  refine zd_ac (ok_iload (l := l) (B := B) (y := m_La_law) (pc := 454) (zd_dr dc_La_5 25 rfl)) ?_
  refine zd_ac (ok_iconst (l := l) (B := B) (y := m_La_law) (pc := 456) (n := (2)) (zd_dr dc_La_5 26 rfl) rfl) ?_
  refine zd_ac (ok_iadd (l := l) (B := B) (y := m_La_law) (pc := 457) (zd_dr dc_La_5 27 rfl)) ?_
  refine zd_ac (ok_iaload (l := l) (B := B) (y := m_La_law) (pc := 458) hG (zd_dr dc_La_5 28 rfl)) ?_
  refine zd_ac (ok_aload_n (l := l) (B := B) (y := m_La_law) (pc := 459) (k := 0) rfl (zd_dr dc_La_5 29 rfl)) ?_
  refine zd_ac (ok_iload (l := l) (B := B) (y := m_La_law) (pc := 460) (zd_dr dc_La_5 30 rfl)) ?_
  refine zd_ac (ok_iconst (l := l) (B := B) (y := m_La_law) (pc := 462) (n := (3)) (zd_dr dc_La_5 31 rfl) rfl) ?_
  refine zd_ac (ok_iadd (l := l) (B := B) (y := m_La_law) (pc := 463) (zd_dr dc_La_5 32 rfl)) ?_
  refine zd_ac (ok_iaload (l := l) (B := B) (y := m_La_law) (pc := 464) hG (zd_dr dc_La_5 33 rfl)) ?_
  refine zd_ac (ok_callv (l := l) (B := B) (y := m_La_law) (pc := 465) hG (ci := 8) rfl cf_La_law_Mo_multiply rfl (List.mem_of_getElem? (i := 1015) (by decide +kernel)) (List.mem_of_getElem? (i := 1016) (by decide +kernel)) (List.mem_of_getElem? (i := 1017) (by decide +kernel)) (zd_dr dc_La_5 34 rfl)) ?_
  refine zd_ac (ok_aload_n (l := l) (B := B) (y := m_La_law) (pc := 468) (k := 2) rfl (zd_dr dc_La_5 35 rfl)) ?_
  refine zd_ac (ok_callv (l := l) (B := B) (y := m_La_law) (pc := 469) hG (ci := 8) rfl cf_La_law_Mo_thrown rfl (List.mem_of_getElem? (i := 947) (by decide +kernel)) (List.mem_of_getElem? (i := 948) (by decide +kernel)) (List.mem_of_getElem? (i := 949) (by decide +kernel)) (zd_dr dc_La_5 36 rfl)) ?_
  refine zd_ac (ok_iload (l := l) (B := B) (y := m_La_law) (pc := 472) (zd_dr dc_La_5 37 rfl)) ?_
  refine zd_ac (ok_icmp_eq (l := l) (B := B) (y := m_La_law) (pc := 474) (zd_dr dc_La_5 38 rfl) (by decide)) ?_
  refine zd_ac (ok_iconst (l := l) (B := B) (y := m_La_law) (pc := 477) (n := (0)) (zd_dr dc_La_5 39 rfl) rfl) ?_
  refine zd_ac (ok_iret (l := l) (B := B) (y := m_La_law) (pc := 478) rfl (zd_dr dc_La_5 40 rfl)) ?_
  refine zd_ac (ok_goto (l := l) (B := B) (y := m_La_law) (pc := 479) (zd_dr dc_La_5 41 rfl) (by decide)) ?_
  exact zd_an
def dl_La_6 : List (Nat × Instr × Nat) := [(482, .aload_n 1, 1), (483, .aload_n 0, 1), (484, .iload 4, 2), (486, .iconst (1), 1), (487, .iadd, 1), (488, .iaload, 1), (489, .aload_n 0, 1), (490, .iload 4, 2), (492, .iconst (2), 1), (493, .iadd, 1), (494, .iaload, 1), (495, .aload_n 0, 1), (496, .iload 4, 2), (498, .iconst (3), 1), (499, .iadd, 1), (500, .iaload, 1), (501, .aload_n 0, 1), (502, .iload 4, 2), (504, .iconst (4), 1), (505, .iadd, 1), (506, .iaload, 1), (507, .aload_n 0, 1), (508, .iload 4, 2), (510, .iconst (5), 1), (511, .iadd, 1), (512, .iaload, 1), (513, .invokestatic 113, 3), (516, .istore 5, 2), (518, .aload_n 2, 1), (519, .aload_n 0, 1), (520, .iload 4, 2), (522, .iconst (1), 1), (523, .iadd, 1), (524, .iaload, 1), (525, .aload_n 0, 1), (526, .iload 4, 2), (528, .iconst (2), 1), (529, .iadd, 1), (530, .iaload, 1), (531, .aload_n 0, 1), (532, .iload 4, 2), (534, .iconst (3), 1), (535, .iadd, 1), (536, .iaload, 1), (537, .aload_n 0, 1), (538, .iload 4, 2), (540, .iconst (4), 1), (541, .iadd, 1), (542, .iaload, 1), (543, .aload_n 0, 1), (544, .iload 4, 2), (546, .iconst (5), 1), (547, .iadd, 1), (548, .iaload, 1), (549, .invokevirtual 116, 3), (552, .aload_n 2, 1), (553, .invokevirtual 98, 3), (556, .iload 5, 2), (558, .if_icmp .eq (5), 3), (561, .iconst (0), 1), (562, .ireturn, 1), (563, .goto (808), 3)]
theorem dc_La_6 : ∀ q ∈ dl_La_6, decode (zd_yb m_La_law) q.1 = .ok q.2 := by decide +kernel
def cd_La_6 (l : Launch) (B : zd_B) : List (Nat × zd_S) := [(482, oc_aload 1 483), (483, oc_aload 0 484), (484, oc_iload 4 486), (486, oc_ci (1) 487), (487, oc_iadd 488), (488, oc_iaload B 489), (489, oc_aload 0 490), (490, oc_iload 4 492), (492, oc_ci (2) 493), (493, oc_iadd 494), (494, oc_iaload B 495), (495, oc_aload 0 496), (496, oc_iload 4 498), (498, oc_ci (3) 499), (499, oc_iadd 500), (500, oc_iaload B 501), (501, oc_aload 0 502), (502, oc_iload 4 504), (504, oc_ci (4) 505), (505, oc_iadd 506), (506, oc_iaload B 507), (507, oc_aload 0 508), (508, oc_iload 4 510), (510, oc_ci (5) 511), (511, oc_iadd 512), (512, oc_iaload B 513), (513, oc_calls l B m_La_divide 6 516), (516, oc_istore 5 518), (518, oc_aload 2 519), (519, oc_aload 0 520), (520, oc_iload 4 522), (522, oc_ci (1) 523), (523, oc_iadd 524), (524, oc_iaload B 525), (525, oc_aload 0 526), (526, oc_iload 4 528), (528, oc_ci (2) 529), (529, oc_iadd 530), (530, oc_iaload B 531), (531, oc_aload 0 532), (532, oc_iload 4 534), (534, oc_ci (3) 535), (535, oc_iadd 536), (536, oc_iaload B 537), (537, oc_aload 0 538), (538, oc_iload 4 540), (540, oc_ci (4) 541), (541, oc_iadd 542), (542, oc_iaload B 543), (543, oc_aload 0 544), (544, oc_iload 4 546), (546, oc_ci (5) 547), (547, oc_iadd 548), (548, oc_iaload B 549), (549, oc_callv l B 8 m_Mo_divide 5 552), (552, oc_aload 2 553), (553, oc_callv l B 8 m_Mo_thrown 0 556), (556, oc_iload 5 558), (558, oc_icmp_eq 563 561), (561, oc_ci (0) 562), (562, oc_iret .boolean), (563, oc_goto 1371)]
set_option maxRecDepth 20000 in
theorem ok_La_6 {l : Launch} {B : zd_B} (hG : zd_G B) (hl : l.stackTraces = false) : ∀ q ∈ cd_La_6 l B, zd_ok l B m_La_law q.1 q.2 := by
  unfold cd_La_6
  refine zd_ac (ok_aload_n (l := l) (B := B) (y := m_La_law) (pc := 482) (k := 1) rfl (zd_dr dc_La_6 0 rfl)) ?_
  refine zd_ac (ok_aload_n (l := l) (B := B) (y := m_La_law) (pc := 483) (k := 0) rfl (zd_dr dc_La_6 1 rfl)) ?_
  refine zd_ac (ok_iload (l := l) (B := B) (y := m_La_law) (pc := 484) (zd_dr dc_La_6 2 rfl)) ?_
  refine zd_ac (ok_iconst (l := l) (B := B) (y := m_La_law) (pc := 486) (n := (1)) (zd_dr dc_La_6 3 rfl) rfl) ?_
  refine zd_ac (ok_iadd (l := l) (B := B) (y := m_La_law) (pc := 487) (zd_dr dc_La_6 4 rfl)) ?_
  refine zd_ac (ok_iaload (l := l) (B := B) (y := m_La_law) (pc := 488) hG (zd_dr dc_La_6 5 rfl)) ?_
  refine zd_ac (ok_aload_n (l := l) (B := B) (y := m_La_law) (pc := 489) (k := 0) rfl (zd_dr dc_La_6 6 rfl)) ?_
  refine zd_ac (ok_iload (l := l) (B := B) (y := m_La_law) (pc := 490) (zd_dr dc_La_6 7 rfl)) ?_
  refine zd_ac (ok_iconst (l := l) (B := B) (y := m_La_law) (pc := 492) (n := (2)) (zd_dr dc_La_6 8 rfl) rfl) ?_
  refine zd_ac (ok_iadd (l := l) (B := B) (y := m_La_law) (pc := 493) (zd_dr dc_La_6 9 rfl)) ?_
  refine zd_ac (ok_iaload (l := l) (B := B) (y := m_La_law) (pc := 494) hG (zd_dr dc_La_6 10 rfl)) ?_
  refine zd_ac (ok_aload_n (l := l) (B := B) (y := m_La_law) (pc := 495) (k := 0) rfl (zd_dr dc_La_6 11 rfl)) ?_
  refine zd_ac (ok_iload (l := l) (B := B) (y := m_La_law) (pc := 496) (zd_dr dc_La_6 12 rfl)) ?_
  refine zd_ac (ok_iconst (l := l) (B := B) (y := m_La_law) (pc := 498) (n := (3)) (zd_dr dc_La_6 13 rfl) rfl) ?_
  refine zd_ac (ok_iadd (l := l) (B := B) (y := m_La_law) (pc := 499) (zd_dr dc_La_6 14 rfl)) ?_
  refine zd_ac (ok_iaload (l := l) (B := B) (y := m_La_law) (pc := 500) hG (zd_dr dc_La_6 15 rfl)) ?_
  refine zd_ac (ok_aload_n (l := l) (B := B) (y := m_La_law) (pc := 501) (k := 0) rfl (zd_dr dc_La_6 16 rfl)) ?_
  refine zd_ac (ok_iload (l := l) (B := B) (y := m_La_law) (pc := 502) (zd_dr dc_La_6 17 rfl)) ?_
  refine zd_ac (ok_iconst (l := l) (B := B) (y := m_La_law) (pc := 504) (n := (4)) (zd_dr dc_La_6 18 rfl) rfl) ?_
  refine zd_ac (ok_iadd (l := l) (B := B) (y := m_La_law) (pc := 505) (zd_dr dc_La_6 19 rfl)) ?_
  refine zd_ac (ok_iaload (l := l) (B := B) (y := m_La_law) (pc := 506) hG (zd_dr dc_La_6 20 rfl)) ?_
  refine zd_ac (ok_aload_n (l := l) (B := B) (y := m_La_law) (pc := 507) (k := 0) rfl (zd_dr dc_La_6 21 rfl)) ?_
  refine zd_ac (ok_iload (l := l) (B := B) (y := m_La_law) (pc := 508) (zd_dr dc_La_6 22 rfl)) ?_
  refine zd_ac (ok_iconst (l := l) (B := B) (y := m_La_law) (pc := 510) (n := (5)) (zd_dr dc_La_6 23 rfl) rfl) ?_
  refine zd_ac (ok_iadd (l := l) (B := B) (y := m_La_law) (pc := 511) (zd_dr dc_La_6 24 rfl)) ?_
  refine zd_ac (ok_iaload (l := l) (B := B) (y := m_La_law) (pc := 512) hG (zd_dr dc_La_6 25 rfl)) ?_
  refine zd_ac (ok_calls (l := l) (B := B) (y := m_La_law) (pc := 513) hG cf_La_law_La_divide rfl (List.mem_of_getElem? (i := 583) (by decide +kernel)) (List.mem_of_getElem? (i := 584) (by decide +kernel)) (List.mem_of_getElem? (i := 55) (by decide +kernel)) (zd_dr dc_La_6 26 rfl)) ?_
  refine zd_ac (ok_istore (l := l) (B := B) (y := m_La_law) (pc := 516) (zd_dr dc_La_6 27 rfl) (by decide)) ?_
  refine zd_ac (ok_aload_n (l := l) (B := B) (y := m_La_law) (pc := 518) (k := 2) rfl (zd_dr dc_La_6 28 rfl)) ?_
  refine zd_ac (ok_aload_n (l := l) (B := B) (y := m_La_law) (pc := 519) (k := 0) rfl (zd_dr dc_La_6 29 rfl)) ?_
  refine zd_ac (ok_iload (l := l) (B := B) (y := m_La_law) (pc := 520) (zd_dr dc_La_6 30 rfl)) ?_
  refine zd_ac (ok_iconst (l := l) (B := B) (y := m_La_law) (pc := 522) (n := (1)) (zd_dr dc_La_6 31 rfl) rfl) ?_
  refine zd_ac (ok_iadd (l := l) (B := B) (y := m_La_law) (pc := 523) (zd_dr dc_La_6 32 rfl)) ?_
  refine zd_ac (ok_iaload (l := l) (B := B) (y := m_La_law) (pc := 524) hG (zd_dr dc_La_6 33 rfl)) ?_
  refine zd_ac (ok_aload_n (l := l) (B := B) (y := m_La_law) (pc := 525) (k := 0) rfl (zd_dr dc_La_6 34 rfl)) ?_
  refine zd_ac (ok_iload (l := l) (B := B) (y := m_La_law) (pc := 526) (zd_dr dc_La_6 35 rfl)) ?_
  refine zd_ac (ok_iconst (l := l) (B := B) (y := m_La_law) (pc := 528) (n := (2)) (zd_dr dc_La_6 36 rfl) rfl) ?_
  refine zd_ac (ok_iadd (l := l) (B := B) (y := m_La_law) (pc := 529) (zd_dr dc_La_6 37 rfl)) ?_
  refine zd_ac (ok_iaload (l := l) (B := B) (y := m_La_law) (pc := 530) hG (zd_dr dc_La_6 38 rfl)) ?_
  refine zd_ac (ok_aload_n (l := l) (B := B) (y := m_La_law) (pc := 531) (k := 0) rfl (zd_dr dc_La_6 39 rfl)) ?_
  refine zd_ac (ok_iload (l := l) (B := B) (y := m_La_law) (pc := 532) (zd_dr dc_La_6 40 rfl)) ?_
  refine zd_ac (ok_iconst (l := l) (B := B) (y := m_La_law) (pc := 534) (n := (3)) (zd_dr dc_La_6 41 rfl) rfl) ?_
  refine zd_ac (ok_iadd (l := l) (B := B) (y := m_La_law) (pc := 535) (zd_dr dc_La_6 42 rfl)) ?_
  refine zd_ac (ok_iaload (l := l) (B := B) (y := m_La_law) (pc := 536) hG (zd_dr dc_La_6 43 rfl)) ?_
  refine zd_ac (ok_aload_n (l := l) (B := B) (y := m_La_law) (pc := 537) (k := 0) rfl (zd_dr dc_La_6 44 rfl)) ?_
  refine zd_ac (ok_iload (l := l) (B := B) (y := m_La_law) (pc := 538) (zd_dr dc_La_6 45 rfl)) ?_
  refine zd_ac (ok_iconst (l := l) (B := B) (y := m_La_law) (pc := 540) (n := (4)) (zd_dr dc_La_6 46 rfl) rfl) ?_
  refine zd_ac (ok_iadd (l := l) (B := B) (y := m_La_law) (pc := 541) (zd_dr dc_La_6 47 rfl)) ?_
  refine zd_ac (ok_iaload (l := l) (B := B) (y := m_La_law) (pc := 542) hG (zd_dr dc_La_6 48 rfl)) ?_
  refine zd_ac (ok_aload_n (l := l) (B := B) (y := m_La_law) (pc := 543) (k := 0) rfl (zd_dr dc_La_6 49 rfl)) ?_
  refine zd_ac (ok_iload (l := l) (B := B) (y := m_La_law) (pc := 544) (zd_dr dc_La_6 50 rfl)) ?_
  refine zd_ac (ok_iconst (l := l) (B := B) (y := m_La_law) (pc := 546) (n := (5)) (zd_dr dc_La_6 51 rfl) rfl) ?_
  refine zd_ac (ok_iadd (l := l) (B := B) (y := m_La_law) (pc := 547) (zd_dr dc_La_6 52 rfl)) ?_
  refine zd_ac (ok_iaload (l := l) (B := B) (y := m_La_law) (pc := 548) hG (zd_dr dc_La_6 53 rfl)) ?_
  refine zd_ac (ok_callv (l := l) (B := B) (y := m_La_law) (pc := 549) hG (ci := 8) rfl cf_La_law_Mo_divide rfl (List.mem_of_getElem? (i := 1031) (by decide +kernel)) (List.mem_of_getElem? (i := 1032) (by decide +kernel)) (List.mem_of_getElem? (i := 1033) (by decide +kernel)) (zd_dr dc_La_6 54 rfl)) ?_
  refine zd_ac (ok_aload_n (l := l) (B := B) (y := m_La_law) (pc := 552) (k := 2) rfl (zd_dr dc_La_6 55 rfl)) ?_
  refine zd_ac (ok_callv (l := l) (B := B) (y := m_La_law) (pc := 553) hG (ci := 8) rfl cf_La_law_Mo_thrown rfl (List.mem_of_getElem? (i := 947) (by decide +kernel)) (List.mem_of_getElem? (i := 948) (by decide +kernel)) (List.mem_of_getElem? (i := 949) (by decide +kernel)) (zd_dr dc_La_6 56 rfl)) ?_
  refine zd_ac (ok_iload (l := l) (B := B) (y := m_La_law) (pc := 556) (zd_dr dc_La_6 57 rfl)) ?_
  refine zd_ac (ok_icmp_eq (l := l) (B := B) (y := m_La_law) (pc := 558) (zd_dr dc_La_6 58 rfl) (by decide)) ?_
  refine zd_ac (ok_iconst (l := l) (B := B) (y := m_La_law) (pc := 561) (n := (0)) (zd_dr dc_La_6 59 rfl) rfl) ?_
  refine zd_ac (ok_iret (l := l) (B := B) (y := m_La_law) (pc := 562) rfl (zd_dr dc_La_6 60 rfl)) ?_
  refine zd_ac (ok_goto (l := l) (B := B) (y := m_La_law) (pc := 563) (zd_dr dc_La_6 61 rfl) (by decide)) ?_
  exact zd_an
def dl_La_7 : List (Nat × Instr × Nat) := [(566, .aload_n 1, 1), (567, .aload_n 0, 1), (568, .iload 4, 2), (570, .iconst (1), 1), (571, .iadd, 1), (572, .iaload, 1), (573, .aload_n 0, 1), (574, .iload 4, 2), (576, .iconst (2), 1), (577, .iadd, 1), (578, .iaload, 1), (579, .aload_n 0, 1), (580, .iload 4, 2), (582, .iconst (3), 1), (583, .iadd, 1), (584, .iaload, 1), (585, .aload_n 0, 1), (586, .iload 4, 2), (588, .iconst (4), 1), (589, .iadd, 1), (590, .iaload, 1), (591, .aload_n 0, 1), (592, .iload 4, 2), (594, .iconst (5), 1), (595, .iadd, 1), (596, .iaload, 1), (597, .invokestatic 117, 3), (600, .istore 5, 2), (602, .aload_n 2, 1), (603, .aload_n 0, 1), (604, .iload 4, 2), (606, .iconst (1), 1), (607, .iadd, 1), (608, .iaload, 1), (609, .aload_n 0, 1), (610, .iload 4, 2), (612, .iconst (2), 1), (613, .iadd, 1), (614, .iaload, 1), (615, .aload_n 0, 1), (616, .iload 4, 2), (618, .iconst (3), 1), (619, .iadd, 1), (620, .iaload, 1), (621, .aload_n 0, 1), (622, .iload 4, 2), (624, .iconst (4), 1), (625, .iadd, 1), (626, .iaload, 1), (627, .aload_n 0, 1), (628, .iload 4, 2), (630, .iconst (5), 1), (631, .iadd, 1), (632, .iaload, 1), (633, .invokevirtual 119, 3), (636, .aload_n 2, 1), (637, .invokevirtual 98, 3), (640, .iload 5, 2), (642, .if_icmp .eq (5), 3), (645, .iconst (0), 1), (646, .ireturn, 1), (647, .goto (724), 3)]
theorem dc_La_7 : ∀ q ∈ dl_La_7, decode (zd_yb m_La_law) q.1 = .ok q.2 := by decide +kernel
def cd_La_7 (l : Launch) (B : zd_B) : List (Nat × zd_S) := [(566, oc_aload 1 567), (567, oc_aload 0 568), (568, oc_iload 4 570), (570, oc_ci (1) 571), (571, oc_iadd 572), (572, oc_iaload B 573), (573, oc_aload 0 574), (574, oc_iload 4 576), (576, oc_ci (2) 577), (577, oc_iadd 578), (578, oc_iaload B 579), (579, oc_aload 0 580), (580, oc_iload 4 582), (582, oc_ci (3) 583), (583, oc_iadd 584), (584, oc_iaload B 585), (585, oc_aload 0 586), (586, oc_iload 4 588), (588, oc_ci (4) 589), (589, oc_iadd 590), (590, oc_iaload B 591), (591, oc_aload 0 592), (592, oc_iload 4 594), (594, oc_ci (5) 595), (595, oc_iadd 596), (596, oc_iaload B 597), (597, oc_calls l B m_La_quotient 6 600), (600, oc_istore 5 602), (602, oc_aload 2 603), (603, oc_aload 0 604), (604, oc_iload 4 606), (606, oc_ci (1) 607), (607, oc_iadd 608), (608, oc_iaload B 609), (609, oc_aload 0 610), (610, oc_iload 4 612), (612, oc_ci (2) 613), (613, oc_iadd 614), (614, oc_iaload B 615), (615, oc_aload 0 616), (616, oc_iload 4 618), (618, oc_ci (3) 619), (619, oc_iadd 620), (620, oc_iaload B 621), (621, oc_aload 0 622), (622, oc_iload 4 624), (624, oc_ci (4) 625), (625, oc_iadd 626), (626, oc_iaload B 627), (627, oc_aload 0 628), (628, oc_iload 4 630), (630, oc_ci (5) 631), (631, oc_iadd 632), (632, oc_iaload B 633), (633, oc_callv l B 8 m_Mo_quotient 5 636), (636, oc_aload 2 637), (637, oc_callv l B 8 m_Mo_thrown 0 640), (640, oc_iload 5 642), (642, oc_icmp_eq 647 645), (645, oc_ci (0) 646), (646, oc_iret .boolean), (647, oc_goto 1371)]
set_option maxRecDepth 20000 in
theorem ok_La_7 {l : Launch} {B : zd_B} (hG : zd_G B) (hl : l.stackTraces = false) : ∀ q ∈ cd_La_7 l B, zd_ok l B m_La_law q.1 q.2 := by
  unfold cd_La_7
  refine zd_ac (ok_aload_n (l := l) (B := B) (y := m_La_law) (pc := 566) (k := 1) rfl (zd_dr dc_La_7 0 rfl)) ?_
  refine zd_ac (ok_aload_n (l := l) (B := B) (y := m_La_law) (pc := 567) (k := 0) rfl (zd_dr dc_La_7 1 rfl)) ?_
  refine zd_ac (ok_iload (l := l) (B := B) (y := m_La_law) (pc := 568) (zd_dr dc_La_7 2 rfl)) ?_
  refine zd_ac (ok_iconst (l := l) (B := B) (y := m_La_law) (pc := 570) (n := (1)) (zd_dr dc_La_7 3 rfl) rfl) ?_
  refine zd_ac (ok_iadd (l := l) (B := B) (y := m_La_law) (pc := 571) (zd_dr dc_La_7 4 rfl)) ?_
  refine zd_ac (ok_iaload (l := l) (B := B) (y := m_La_law) (pc := 572) hG (zd_dr dc_La_7 5 rfl)) ?_
  refine zd_ac (ok_aload_n (l := l) (B := B) (y := m_La_law) (pc := 573) (k := 0) rfl (zd_dr dc_La_7 6 rfl)) ?_
  refine zd_ac (ok_iload (l := l) (B := B) (y := m_La_law) (pc := 574) (zd_dr dc_La_7 7 rfl)) ?_
  refine zd_ac (ok_iconst (l := l) (B := B) (y := m_La_law) (pc := 576) (n := (2)) (zd_dr dc_La_7 8 rfl) rfl) ?_
  refine zd_ac (ok_iadd (l := l) (B := B) (y := m_La_law) (pc := 577) (zd_dr dc_La_7 9 rfl)) ?_
  refine zd_ac (ok_iaload (l := l) (B := B) (y := m_La_law) (pc := 578) hG (zd_dr dc_La_7 10 rfl)) ?_
  refine zd_ac (ok_aload_n (l := l) (B := B) (y := m_La_law) (pc := 579) (k := 0) rfl (zd_dr dc_La_7 11 rfl)) ?_
  refine zd_ac (ok_iload (l := l) (B := B) (y := m_La_law) (pc := 580) (zd_dr dc_La_7 12 rfl)) ?_
  refine zd_ac (ok_iconst (l := l) (B := B) (y := m_La_law) (pc := 582) (n := (3)) (zd_dr dc_La_7 13 rfl) rfl) ?_
  refine zd_ac (ok_iadd (l := l) (B := B) (y := m_La_law) (pc := 583) (zd_dr dc_La_7 14 rfl)) ?_
  refine zd_ac (ok_iaload (l := l) (B := B) (y := m_La_law) (pc := 584) hG (zd_dr dc_La_7 15 rfl)) ?_
  refine zd_ac (ok_aload_n (l := l) (B := B) (y := m_La_law) (pc := 585) (k := 0) rfl (zd_dr dc_La_7 16 rfl)) ?_
  refine zd_ac (ok_iload (l := l) (B := B) (y := m_La_law) (pc := 586) (zd_dr dc_La_7 17 rfl)) ?_
  refine zd_ac (ok_iconst (l := l) (B := B) (y := m_La_law) (pc := 588) (n := (4)) (zd_dr dc_La_7 18 rfl) rfl) ?_
  refine zd_ac (ok_iadd (l := l) (B := B) (y := m_La_law) (pc := 589) (zd_dr dc_La_7 19 rfl)) ?_
  refine zd_ac (ok_iaload (l := l) (B := B) (y := m_La_law) (pc := 590) hG (zd_dr dc_La_7 20 rfl)) ?_
  refine zd_ac (ok_aload_n (l := l) (B := B) (y := m_La_law) (pc := 591) (k := 0) rfl (zd_dr dc_La_7 21 rfl)) ?_
  refine zd_ac (ok_iload (l := l) (B := B) (y := m_La_law) (pc := 592) (zd_dr dc_La_7 22 rfl)) ?_
  refine zd_ac (ok_iconst (l := l) (B := B) (y := m_La_law) (pc := 594) (n := (5)) (zd_dr dc_La_7 23 rfl) rfl) ?_
  refine zd_ac (ok_iadd (l := l) (B := B) (y := m_La_law) (pc := 595) (zd_dr dc_La_7 24 rfl)) ?_
  refine zd_ac (ok_iaload (l := l) (B := B) (y := m_La_law) (pc := 596) hG (zd_dr dc_La_7 25 rfl)) ?_
  refine zd_ac (ok_calls (l := l) (B := B) (y := m_La_law) (pc := 597) hG cf_La_law_La_quotient rfl (List.mem_of_getElem? (i := 664) (by decide +kernel)) (List.mem_of_getElem? (i := 665) (by decide +kernel)) (List.mem_of_getElem? (i := 55) (by decide +kernel)) (zd_dr dc_La_7 26 rfl)) ?_
  refine zd_ac (ok_istore (l := l) (B := B) (y := m_La_law) (pc := 600) (zd_dr dc_La_7 27 rfl) (by decide)) ?_
  refine zd_ac (ok_aload_n (l := l) (B := B) (y := m_La_law) (pc := 602) (k := 2) rfl (zd_dr dc_La_7 28 rfl)) ?_
  refine zd_ac (ok_aload_n (l := l) (B := B) (y := m_La_law) (pc := 603) (k := 0) rfl (zd_dr dc_La_7 29 rfl)) ?_
  refine zd_ac (ok_iload (l := l) (B := B) (y := m_La_law) (pc := 604) (zd_dr dc_La_7 30 rfl)) ?_
  refine zd_ac (ok_iconst (l := l) (B := B) (y := m_La_law) (pc := 606) (n := (1)) (zd_dr dc_La_7 31 rfl) rfl) ?_
  refine zd_ac (ok_iadd (l := l) (B := B) (y := m_La_law) (pc := 607) (zd_dr dc_La_7 32 rfl)) ?_
  refine zd_ac (ok_iaload (l := l) (B := B) (y := m_La_law) (pc := 608) hG (zd_dr dc_La_7 33 rfl)) ?_
  refine zd_ac (ok_aload_n (l := l) (B := B) (y := m_La_law) (pc := 609) (k := 0) rfl (zd_dr dc_La_7 34 rfl)) ?_
  refine zd_ac (ok_iload (l := l) (B := B) (y := m_La_law) (pc := 610) (zd_dr dc_La_7 35 rfl)) ?_
  refine zd_ac (ok_iconst (l := l) (B := B) (y := m_La_law) (pc := 612) (n := (2)) (zd_dr dc_La_7 36 rfl) rfl) ?_
  refine zd_ac (ok_iadd (l := l) (B := B) (y := m_La_law) (pc := 613) (zd_dr dc_La_7 37 rfl)) ?_
  refine zd_ac (ok_iaload (l := l) (B := B) (y := m_La_law) (pc := 614) hG (zd_dr dc_La_7 38 rfl)) ?_
  refine zd_ac (ok_aload_n (l := l) (B := B) (y := m_La_law) (pc := 615) (k := 0) rfl (zd_dr dc_La_7 39 rfl)) ?_
  refine zd_ac (ok_iload (l := l) (B := B) (y := m_La_law) (pc := 616) (zd_dr dc_La_7 40 rfl)) ?_
  refine zd_ac (ok_iconst (l := l) (B := B) (y := m_La_law) (pc := 618) (n := (3)) (zd_dr dc_La_7 41 rfl) rfl) ?_
  refine zd_ac (ok_iadd (l := l) (B := B) (y := m_La_law) (pc := 619) (zd_dr dc_La_7 42 rfl)) ?_
  refine zd_ac (ok_iaload (l := l) (B := B) (y := m_La_law) (pc := 620) hG (zd_dr dc_La_7 43 rfl)) ?_
  refine zd_ac (ok_aload_n (l := l) (B := B) (y := m_La_law) (pc := 621) (k := 0) rfl (zd_dr dc_La_7 44 rfl)) ?_
  refine zd_ac (ok_iload (l := l) (B := B) (y := m_La_law) (pc := 622) (zd_dr dc_La_7 45 rfl)) ?_
  refine zd_ac (ok_iconst (l := l) (B := B) (y := m_La_law) (pc := 624) (n := (4)) (zd_dr dc_La_7 46 rfl) rfl) ?_
  refine zd_ac (ok_iadd (l := l) (B := B) (y := m_La_law) (pc := 625) (zd_dr dc_La_7 47 rfl)) ?_
  refine zd_ac (ok_iaload (l := l) (B := B) (y := m_La_law) (pc := 626) hG (zd_dr dc_La_7 48 rfl)) ?_
  refine zd_ac (ok_aload_n (l := l) (B := B) (y := m_La_law) (pc := 627) (k := 0) rfl (zd_dr dc_La_7 49 rfl)) ?_
  refine zd_ac (ok_iload (l := l) (B := B) (y := m_La_law) (pc := 628) (zd_dr dc_La_7 50 rfl)) ?_
  refine zd_ac (ok_iconst (l := l) (B := B) (y := m_La_law) (pc := 630) (n := (5)) (zd_dr dc_La_7 51 rfl) rfl) ?_
  refine zd_ac (ok_iadd (l := l) (B := B) (y := m_La_law) (pc := 631) (zd_dr dc_La_7 52 rfl)) ?_
  refine zd_ac (ok_iaload (l := l) (B := B) (y := m_La_law) (pc := 632) hG (zd_dr dc_La_7 53 rfl)) ?_
  refine zd_ac (ok_callv (l := l) (B := B) (y := m_La_law) (pc := 633) hG (ci := 8) rfl cf_La_law_Mo_quotient rfl (List.mem_of_getElem? (i := 1080) (by decide +kernel)) (List.mem_of_getElem? (i := 1081) (by decide +kernel)) (List.mem_of_getElem? (i := 1082) (by decide +kernel)) (zd_dr dc_La_7 54 rfl)) ?_
  refine zd_ac (ok_aload_n (l := l) (B := B) (y := m_La_law) (pc := 636) (k := 2) rfl (zd_dr dc_La_7 55 rfl)) ?_
  refine zd_ac (ok_callv (l := l) (B := B) (y := m_La_law) (pc := 637) hG (ci := 8) rfl cf_La_law_Mo_thrown rfl (List.mem_of_getElem? (i := 947) (by decide +kernel)) (List.mem_of_getElem? (i := 948) (by decide +kernel)) (List.mem_of_getElem? (i := 949) (by decide +kernel)) (zd_dr dc_La_7 56 rfl)) ?_
  refine zd_ac (ok_iload (l := l) (B := B) (y := m_La_law) (pc := 640) (zd_dr dc_La_7 57 rfl)) ?_
  refine zd_ac (ok_icmp_eq (l := l) (B := B) (y := m_La_law) (pc := 642) (zd_dr dc_La_7 58 rfl) (by decide)) ?_
  refine zd_ac (ok_iconst (l := l) (B := B) (y := m_La_law) (pc := 645) (n := (0)) (zd_dr dc_La_7 59 rfl) rfl) ?_
  refine zd_ac (ok_iret (l := l) (B := B) (y := m_La_law) (pc := 646) rfl (zd_dr dc_La_7 60 rfl)) ?_
  refine zd_ac (ok_goto (l := l) (B := B) (y := m_La_law) (pc := 647) (zd_dr dc_La_7 61 rfl) (by decide)) ?_
  exact zd_an
def dl_La_8 : List (Nat × Instr × Nat) := [(650, .aload_n 1, 1), (651, .aload_n 0, 1), (652, .iload 4, 2), (654, .iconst (1), 1), (655, .iadd, 1), (656, .iaload, 1), (657, .aload_n 0, 1), (658, .iload 4, 2), (660, .iconst (2), 1), (661, .iadd, 1), (662, .iaload, 1), (663, .aload_n 0, 1), (664, .iload 4, 2), (666, .iconst (3), 1), (667, .iadd, 1), (668, .iaload, 1), (669, .invokestatic 120, 3), (672, .istore 5, 2), (674, .aload_n 2, 1), (675, .aload_n 0, 1), (676, .iload 4, 2), (678, .iconst (1), 1), (679, .iadd, 1), (680, .iaload, 1), (681, .aload_n 0, 1), (682, .iload 4, 2), (684, .iconst (2), 1), (685, .iadd, 1), (686, .iaload, 1), (687, .aload_n 0, 1), (688, .iload 4, 2), (690, .iconst (3), 1), (691, .iadd, 1), (692, .iaload, 1), (693, .invokevirtual 122, 3), (696, .aload_n 2, 1), (697, .invokevirtual 98, 3), (700, .iload 5, 2), (702, .if_icmp .eq (5), 3), (705, .iconst (0), 1), (706, .ireturn, 1), (707, .goto (664), 3)]
theorem dc_La_8 : ∀ q ∈ dl_La_8, decode (zd_yb m_La_law) q.1 = .ok q.2 := by decide +kernel
def cd_La_8 (l : Launch) (B : zd_B) : List (Nat × zd_S) := [(650, oc_aload 1 651), (651, oc_aload 0 652), (652, oc_iload 4 654), (654, oc_ci (1) 655), (655, oc_iadd 656), (656, oc_iaload B 657), (657, oc_aload 0 658), (658, oc_iload 4 660), (660, oc_ci (2) 661), (661, oc_iadd 662), (662, oc_iaload B 663), (663, oc_aload 0 664), (664, oc_iload 4 666), (666, oc_ci (3) 667), (667, oc_iadd 668), (668, oc_iaload B 669), (669, oc_calls l B m_La_remainder 4 672), (672, oc_istore 5 674), (674, oc_aload 2 675), (675, oc_aload 0 676), (676, oc_iload 4 678), (678, oc_ci (1) 679), (679, oc_iadd 680), (680, oc_iaload B 681), (681, oc_aload 0 682), (682, oc_iload 4 684), (684, oc_ci (2) 685), (685, oc_iadd 686), (686, oc_iaload B 687), (687, oc_aload 0 688), (688, oc_iload 4 690), (690, oc_ci (3) 691), (691, oc_iadd 692), (692, oc_iaload B 693), (693, oc_callv l B 8 m_Mo_remainder 3 696), (696, oc_aload 2 697), (697, oc_callv l B 8 m_Mo_thrown 0 700), (700, oc_iload 5 702), (702, oc_icmp_eq 707 705), (705, oc_ci (0) 706), (706, oc_iret .boolean), (707, oc_goto 1371)]
set_option maxRecDepth 20000 in
theorem ok_La_8 {l : Launch} {B : zd_B} (hG : zd_G B) (hl : l.stackTraces = false) : ∀ q ∈ cd_La_8 l B, zd_ok l B m_La_law q.1 q.2 := by
  unfold cd_La_8
  refine zd_ac (ok_aload_n (l := l) (B := B) (y := m_La_law) (pc := 650) (k := 1) rfl (zd_dr dc_La_8 0 rfl)) ?_
  refine zd_ac (ok_aload_n (l := l) (B := B) (y := m_La_law) (pc := 651) (k := 0) rfl (zd_dr dc_La_8 1 rfl)) ?_
  refine zd_ac (ok_iload (l := l) (B := B) (y := m_La_law) (pc := 652) (zd_dr dc_La_8 2 rfl)) ?_
  refine zd_ac (ok_iconst (l := l) (B := B) (y := m_La_law) (pc := 654) (n := (1)) (zd_dr dc_La_8 3 rfl) rfl) ?_
  refine zd_ac (ok_iadd (l := l) (B := B) (y := m_La_law) (pc := 655) (zd_dr dc_La_8 4 rfl)) ?_
  refine zd_ac (ok_iaload (l := l) (B := B) (y := m_La_law) (pc := 656) hG (zd_dr dc_La_8 5 rfl)) ?_
  refine zd_ac (ok_aload_n (l := l) (B := B) (y := m_La_law) (pc := 657) (k := 0) rfl (zd_dr dc_La_8 6 rfl)) ?_
  refine zd_ac (ok_iload (l := l) (B := B) (y := m_La_law) (pc := 658) (zd_dr dc_La_8 7 rfl)) ?_
  refine zd_ac (ok_iconst (l := l) (B := B) (y := m_La_law) (pc := 660) (n := (2)) (zd_dr dc_La_8 8 rfl) rfl) ?_
  refine zd_ac (ok_iadd (l := l) (B := B) (y := m_La_law) (pc := 661) (zd_dr dc_La_8 9 rfl)) ?_
  refine zd_ac (ok_iaload (l := l) (B := B) (y := m_La_law) (pc := 662) hG (zd_dr dc_La_8 10 rfl)) ?_
  refine zd_ac (ok_aload_n (l := l) (B := B) (y := m_La_law) (pc := 663) (k := 0) rfl (zd_dr dc_La_8 11 rfl)) ?_
  refine zd_ac (ok_iload (l := l) (B := B) (y := m_La_law) (pc := 664) (zd_dr dc_La_8 12 rfl)) ?_
  refine zd_ac (ok_iconst (l := l) (B := B) (y := m_La_law) (pc := 666) (n := (3)) (zd_dr dc_La_8 13 rfl) rfl) ?_
  refine zd_ac (ok_iadd (l := l) (B := B) (y := m_La_law) (pc := 667) (zd_dr dc_La_8 14 rfl)) ?_
  refine zd_ac (ok_iaload (l := l) (B := B) (y := m_La_law) (pc := 668) hG (zd_dr dc_La_8 15 rfl)) ?_
  refine zd_ac (ok_calls (l := l) (B := B) (y := m_La_law) (pc := 669) hG cf_La_law_La_remainder rfl (List.mem_of_getElem? (i := 690) (by decide +kernel)) (List.mem_of_getElem? (i := 691) (by decide +kernel)) (List.mem_of_getElem? (i := 55) (by decide +kernel)) (zd_dr dc_La_8 16 rfl)) ?_
  refine zd_ac (ok_istore (l := l) (B := B) (y := m_La_law) (pc := 672) (zd_dr dc_La_8 17 rfl) (by decide)) ?_
  refine zd_ac (ok_aload_n (l := l) (B := B) (y := m_La_law) (pc := 674) (k := 2) rfl (zd_dr dc_La_8 18 rfl)) ?_
  refine zd_ac (ok_aload_n (l := l) (B := B) (y := m_La_law) (pc := 675) (k := 0) rfl (zd_dr dc_La_8 19 rfl)) ?_
  refine zd_ac (ok_iload (l := l) (B := B) (y := m_La_law) (pc := 676) (zd_dr dc_La_8 20 rfl)) ?_
  refine zd_ac (ok_iconst (l := l) (B := B) (y := m_La_law) (pc := 678) (n := (1)) (zd_dr dc_La_8 21 rfl) rfl) ?_
  refine zd_ac (ok_iadd (l := l) (B := B) (y := m_La_law) (pc := 679) (zd_dr dc_La_8 22 rfl)) ?_
  refine zd_ac (ok_iaload (l := l) (B := B) (y := m_La_law) (pc := 680) hG (zd_dr dc_La_8 23 rfl)) ?_
  refine zd_ac (ok_aload_n (l := l) (B := B) (y := m_La_law) (pc := 681) (k := 0) rfl (zd_dr dc_La_8 24 rfl)) ?_
  refine zd_ac (ok_iload (l := l) (B := B) (y := m_La_law) (pc := 682) (zd_dr dc_La_8 25 rfl)) ?_
  refine zd_ac (ok_iconst (l := l) (B := B) (y := m_La_law) (pc := 684) (n := (2)) (zd_dr dc_La_8 26 rfl) rfl) ?_
  refine zd_ac (ok_iadd (l := l) (B := B) (y := m_La_law) (pc := 685) (zd_dr dc_La_8 27 rfl)) ?_
  refine zd_ac (ok_iaload (l := l) (B := B) (y := m_La_law) (pc := 686) hG (zd_dr dc_La_8 28 rfl)) ?_
  refine zd_ac (ok_aload_n (l := l) (B := B) (y := m_La_law) (pc := 687) (k := 0) rfl (zd_dr dc_La_8 29 rfl)) ?_
  refine zd_ac (ok_iload (l := l) (B := B) (y := m_La_law) (pc := 688) (zd_dr dc_La_8 30 rfl)) ?_
  refine zd_ac (ok_iconst (l := l) (B := B) (y := m_La_law) (pc := 690) (n := (3)) (zd_dr dc_La_8 31 rfl) rfl) ?_
  refine zd_ac (ok_iadd (l := l) (B := B) (y := m_La_law) (pc := 691) (zd_dr dc_La_8 32 rfl)) ?_
  refine zd_ac (ok_iaload (l := l) (B := B) (y := m_La_law) (pc := 692) hG (zd_dr dc_La_8 33 rfl)) ?_
  refine zd_ac (ok_callv (l := l) (B := B) (y := m_La_law) (pc := 693) hG (ci := 8) rfl cf_La_law_Mo_remainder rfl (List.mem_of_getElem? (i := 1096) (by decide +kernel)) (List.mem_of_getElem? (i := 1097) (by decide +kernel)) (List.mem_of_getElem? (i := 1098) (by decide +kernel)) (zd_dr dc_La_8 34 rfl)) ?_
  refine zd_ac (ok_aload_n (l := l) (B := B) (y := m_La_law) (pc := 696) (k := 2) rfl (zd_dr dc_La_8 35 rfl)) ?_
  refine zd_ac (ok_callv (l := l) (B := B) (y := m_La_law) (pc := 697) hG (ci := 8) rfl cf_La_law_Mo_thrown rfl (List.mem_of_getElem? (i := 947) (by decide +kernel)) (List.mem_of_getElem? (i := 948) (by decide +kernel)) (List.mem_of_getElem? (i := 949) (by decide +kernel)) (zd_dr dc_La_8 36 rfl)) ?_
  refine zd_ac (ok_iload (l := l) (B := B) (y := m_La_law) (pc := 700) (zd_dr dc_La_8 37 rfl)) ?_
  refine zd_ac (ok_icmp_eq (l := l) (B := B) (y := m_La_law) (pc := 702) (zd_dr dc_La_8 38 rfl) (by decide)) ?_
  refine zd_ac (ok_iconst (l := l) (B := B) (y := m_La_law) (pc := 705) (n := (0)) (zd_dr dc_La_8 39 rfl) rfl) ?_
  refine zd_ac (ok_iret (l := l) (B := B) (y := m_La_law) (pc := 706) rfl (zd_dr dc_La_8 40 rfl)) ?_
  refine zd_ac (ok_goto (l := l) (B := B) (y := m_La_law) (pc := 707) (zd_dr dc_La_8 41 rfl) (by decide)) ?_
  exact zd_an
def dl_La_9 : List (Nat × Instr × Nat) := [(710, .aload_n 1, 1), (711, .aload_n 0, 1), (712, .iload 4, 2), (714, .iconst (1), 1), (715, .iadd, 1), (716, .iaload, 1), (717, .aload_n 0, 1), (718, .iload 4, 2), (720, .iconst (2), 1), (721, .iadd, 1), (722, .iaload, 1), (723, .aload_n 0, 1), (724, .iload 4, 2), (726, .iconst (3), 1), (727, .iadd, 1), (728, .iaload, 1), (729, .invokestatic 123, 3), (732, .istore 5, 2), (734, .aload_n 2, 1), (735, .aload_n 0, 1), (736, .iload 4, 2), (738, .iconst (1), 1), (739, .iadd, 1), (740, .iaload, 1), (741, .aload_n 0, 1), (742, .iload 4, 2), (744, .iconst (2), 1), (745, .iadd, 1), (746, .iaload, 1), (747, .aload_n 0, 1), (748, .iload 4, 2), (750, .iconst (3), 1), (751, .iadd, 1), (752, .iaload, 1), (753, .invokevirtual 125, 3), (756, .aload_n 2, 1), (757, .invokevirtual 98, 3), (760, .iload 5, 2), (762, .if_icmp .eq (5), 3), (765, .iconst (0), 1), (766, .ireturn, 1), (767, .goto (604), 3)]
theorem dc_La_9 : ∀ q ∈ dl_La_9, decode (zd_yb m_La_law) q.1 = .ok q.2 := by decide +kernel
def cd_La_9 (l : Launch) (B : zd_B) : List (Nat × zd_S) := [(710, oc_aload 1 711), (711, oc_aload 0 712), (712, oc_iload 4 714), (714, oc_ci (1) 715), (715, oc_iadd 716), (716, oc_iaload B 717), (717, oc_aload 0 718), (718, oc_iload 4 720), (720, oc_ci (2) 721), (721, oc_iadd 722), (722, oc_iaload B 723), (723, oc_aload 0 724), (724, oc_iload 4 726), (726, oc_ci (3) 727), (727, oc_iadd 728), (728, oc_iaload B 729), (729, oc_calls l B m_La_power 4 732), (732, oc_istore 5 734), (734, oc_aload 2 735), (735, oc_aload 0 736), (736, oc_iload 4 738), (738, oc_ci (1) 739), (739, oc_iadd 740), (740, oc_iaload B 741), (741, oc_aload 0 742), (742, oc_iload 4 744), (744, oc_ci (2) 745), (745, oc_iadd 746), (746, oc_iaload B 747), (747, oc_aload 0 748), (748, oc_iload 4 750), (750, oc_ci (3) 751), (751, oc_iadd 752), (752, oc_iaload B 753), (753, oc_callv l B 8 m_Mo_power 3 756), (756, oc_aload 2 757), (757, oc_callv l B 8 m_Mo_thrown 0 760), (760, oc_iload 5 762), (762, oc_icmp_eq 767 765), (765, oc_ci (0) 766), (766, oc_iret .boolean), (767, oc_goto 1371)]
set_option maxRecDepth 20000 in
theorem ok_La_9 {l : Launch} {B : zd_B} (hG : zd_G B) (hl : l.stackTraces = false) : ∀ q ∈ cd_La_9 l B, zd_ok l B m_La_law q.1 q.2 := by
  unfold cd_La_9
  refine zd_ac (ok_aload_n (l := l) (B := B) (y := m_La_law) (pc := 710) (k := 1) rfl (zd_dr dc_La_9 0 rfl)) ?_
  refine zd_ac (ok_aload_n (l := l) (B := B) (y := m_La_law) (pc := 711) (k := 0) rfl (zd_dr dc_La_9 1 rfl)) ?_
  refine zd_ac (ok_iload (l := l) (B := B) (y := m_La_law) (pc := 712) (zd_dr dc_La_9 2 rfl)) ?_
  refine zd_ac (ok_iconst (l := l) (B := B) (y := m_La_law) (pc := 714) (n := (1)) (zd_dr dc_La_9 3 rfl) rfl) ?_
  refine zd_ac (ok_iadd (l := l) (B := B) (y := m_La_law) (pc := 715) (zd_dr dc_La_9 4 rfl)) ?_
  refine zd_ac (ok_iaload (l := l) (B := B) (y := m_La_law) (pc := 716) hG (zd_dr dc_La_9 5 rfl)) ?_
  refine zd_ac (ok_aload_n (l := l) (B := B) (y := m_La_law) (pc := 717) (k := 0) rfl (zd_dr dc_La_9 6 rfl)) ?_
  refine zd_ac (ok_iload (l := l) (B := B) (y := m_La_law) (pc := 718) (zd_dr dc_La_9 7 rfl)) ?_
  refine zd_ac (ok_iconst (l := l) (B := B) (y := m_La_law) (pc := 720) (n := (2)) (zd_dr dc_La_9 8 rfl) rfl) ?_
  refine zd_ac (ok_iadd (l := l) (B := B) (y := m_La_law) (pc := 721) (zd_dr dc_La_9 9 rfl)) ?_
  refine zd_ac (ok_iaload (l := l) (B := B) (y := m_La_law) (pc := 722) hG (zd_dr dc_La_9 10 rfl)) ?_
  refine zd_ac (ok_aload_n (l := l) (B := B) (y := m_La_law) (pc := 723) (k := 0) rfl (zd_dr dc_La_9 11 rfl)) ?_
  refine zd_ac (ok_iload (l := l) (B := B) (y := m_La_law) (pc := 724) (zd_dr dc_La_9 12 rfl)) ?_
  refine zd_ac (ok_iconst (l := l) (B := B) (y := m_La_law) (pc := 726) (n := (3)) (zd_dr dc_La_9 13 rfl) rfl) ?_
  refine zd_ac (ok_iadd (l := l) (B := B) (y := m_La_law) (pc := 727) (zd_dr dc_La_9 14 rfl)) ?_
  refine zd_ac (ok_iaload (l := l) (B := B) (y := m_La_law) (pc := 728) hG (zd_dr dc_La_9 15 rfl)) ?_
  refine zd_ac (ok_calls (l := l) (B := B) (y := m_La_law) (pc := 729) hG cf_La_law_La_power rfl (List.mem_of_getElem? (i := 702) (by decide +kernel)) (List.mem_of_getElem? (i := 703) (by decide +kernel)) (List.mem_of_getElem? (i := 55) (by decide +kernel)) (zd_dr dc_La_9 16 rfl)) ?_
  refine zd_ac (ok_istore (l := l) (B := B) (y := m_La_law) (pc := 732) (zd_dr dc_La_9 17 rfl) (by decide)) ?_
  refine zd_ac (ok_aload_n (l := l) (B := B) (y := m_La_law) (pc := 734) (k := 2) rfl (zd_dr dc_La_9 18 rfl)) ?_
  refine zd_ac (ok_aload_n (l := l) (B := B) (y := m_La_law) (pc := 735) (k := 0) rfl (zd_dr dc_La_9 19 rfl)) ?_
  refine zd_ac (ok_iload (l := l) (B := B) (y := m_La_law) (pc := 736) (zd_dr dc_La_9 20 rfl)) ?_
  refine zd_ac (ok_iconst (l := l) (B := B) (y := m_La_law) (pc := 738) (n := (1)) (zd_dr dc_La_9 21 rfl) rfl) ?_
  refine zd_ac (ok_iadd (l := l) (B := B) (y := m_La_law) (pc := 739) (zd_dr dc_La_9 22 rfl)) ?_
  refine zd_ac (ok_iaload (l := l) (B := B) (y := m_La_law) (pc := 740) hG (zd_dr dc_La_9 23 rfl)) ?_
  refine zd_ac (ok_aload_n (l := l) (B := B) (y := m_La_law) (pc := 741) (k := 0) rfl (zd_dr dc_La_9 24 rfl)) ?_
  refine zd_ac (ok_iload (l := l) (B := B) (y := m_La_law) (pc := 742) (zd_dr dc_La_9 25 rfl)) ?_
  refine zd_ac (ok_iconst (l := l) (B := B) (y := m_La_law) (pc := 744) (n := (2)) (zd_dr dc_La_9 26 rfl) rfl) ?_
  refine zd_ac (ok_iadd (l := l) (B := B) (y := m_La_law) (pc := 745) (zd_dr dc_La_9 27 rfl)) ?_
  refine zd_ac (ok_iaload (l := l) (B := B) (y := m_La_law) (pc := 746) hG (zd_dr dc_La_9 28 rfl)) ?_
  refine zd_ac (ok_aload_n (l := l) (B := B) (y := m_La_law) (pc := 747) (k := 0) rfl (zd_dr dc_La_9 29 rfl)) ?_
  refine zd_ac (ok_iload (l := l) (B := B) (y := m_La_law) (pc := 748) (zd_dr dc_La_9 30 rfl)) ?_
  refine zd_ac (ok_iconst (l := l) (B := B) (y := m_La_law) (pc := 750) (n := (3)) (zd_dr dc_La_9 31 rfl) rfl) ?_
  refine zd_ac (ok_iadd (l := l) (B := B) (y := m_La_law) (pc := 751) (zd_dr dc_La_9 32 rfl)) ?_
  refine zd_ac (ok_iaload (l := l) (B := B) (y := m_La_law) (pc := 752) hG (zd_dr dc_La_9 33 rfl)) ?_
  refine zd_ac (ok_callv (l := l) (B := B) (y := m_La_law) (pc := 753) hG (ci := 8) rfl cf_La_law_Mo_power rfl (List.mem_of_getElem? (i := 1027) (by decide +kernel)) (List.mem_of_getElem? (i := 1028) (by decide +kernel)) (List.mem_of_getElem? (i := 1029) (by decide +kernel)) (zd_dr dc_La_9 34 rfl)) ?_
  refine zd_ac (ok_aload_n (l := l) (B := B) (y := m_La_law) (pc := 756) (k := 2) rfl (zd_dr dc_La_9 35 rfl)) ?_
  refine zd_ac (ok_callv (l := l) (B := B) (y := m_La_law) (pc := 757) hG (ci := 8) rfl cf_La_law_Mo_thrown rfl (List.mem_of_getElem? (i := 947) (by decide +kernel)) (List.mem_of_getElem? (i := 948) (by decide +kernel)) (List.mem_of_getElem? (i := 949) (by decide +kernel)) (zd_dr dc_La_9 36 rfl)) ?_
  refine zd_ac (ok_iload (l := l) (B := B) (y := m_La_law) (pc := 760) (zd_dr dc_La_9 37 rfl)) ?_
  refine zd_ac (ok_icmp_eq (l := l) (B := B) (y := m_La_law) (pc := 762) (zd_dr dc_La_9 38 rfl) (by decide)) ?_
  refine zd_ac (ok_iconst (l := l) (B := B) (y := m_La_law) (pc := 765) (n := (0)) (zd_dr dc_La_9 39 rfl) rfl) ?_
  refine zd_ac (ok_iret (l := l) (B := B) (y := m_La_law) (pc := 766) rfl (zd_dr dc_La_9 40 rfl)) ?_
  refine zd_ac (ok_goto (l := l) (B := B) (y := m_La_law) (pc := 767) (zd_dr dc_La_9 41 rfl) (by decide)) ?_
  exact zd_an
def dl_La_e : List (Nat × Instr × Nat) := [(1371, .iinc 4 (6), 3), (1374, .goto (-1351), 3), (1377, .iconst (1), 1), (1378, .ireturn, 1)]
theorem dc_La_e : ∀ q ∈ dl_La_e, decode (zd_yb m_La_law) q.1 = .ok q.2 := by decide +kernel
def cd_La_e (l : Launch) (B : zd_B) : List (Nat × zd_S) := [(1371, oc_iinc 4 (6) 1374), (1374, oc_goto 23), (1377, oc_ci (1) 1378), (1378, oc_iret .boolean)]
set_option maxRecDepth 20000 in
theorem ok_La_e {l : Launch} {B : zd_B} (hG : zd_G B) (hl : l.stackTraces = false) : ∀ q ∈ cd_La_e l B, zd_ok l B m_La_law q.1 q.2 := by
  unfold cd_La_e
  refine zd_ac (ok_iinc (l := l) (B := B) (y := m_La_law) (pc := 1371) (zd_dr dc_La_e 0 rfl) (by decide) rfl) ?_
  refine zd_ac (ok_goto (l := l) (B := B) (y := m_La_law) (pc := 1374) (zd_dr dc_La_e 1 rfl) (by decide)) ?_
  refine zd_ac (ok_iconst (l := l) (B := B) (y := m_La_law) (pc := 1377) (n := (1)) (zd_dr dc_La_e 2 rfl) rfl) ?_
  refine zd_ac (ok_iret (l := l) (B := B) (y := m_La_law) (pc := 1378) rfl (zd_dr dc_La_e 3 rfl)) ?_
  exact zd_an
