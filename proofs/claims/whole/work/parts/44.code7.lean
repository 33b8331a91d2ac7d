/-! written by gencode.py: code of the model -/
theorem cf_Mo_nextRoot_Mo_takesRoot : zd_cf m_Mo_nextRoot m_Mo_takesRoot 1 := ⟨(List.mem_of_getElem? (i := 1115) (by decide +kernel)), by decide +kernel, by decide, by decide, ⟨by decide, by decide⟩, by decide +kernel⟩
theorem cf_Mo_root_Mo_isZero : zd_cf m_Mo_root m_Mo_isZero 1 := ⟨(List.mem_of_getElem? (i := 1001) (by decide +kernel)), by decide +kernel, by decide, by decide, ⟨by decide, by decide⟩, by decide +kernel⟩
theorem cf_Mo_root_Mo_load : zd_cf m_Mo_root m_Mo_load 1 := ⟨(List.mem_of_getElem? (i := 1022) (by decide +kernel)), by decide +kernel, by decide, by decide, ⟨by decide, by decide⟩, by decide +kernel⟩
theorem cf_Mo_root_Mo_nextRoot : zd_cf m_Mo_root m_Mo_nextRoot 2 := ⟨(List.mem_of_getElem? (i := 1111) (by decide +kernel)), by decide +kernel, by decide, by decide, ⟨by decide, by decide⟩, by decide +kernel⟩
theorem cf_Mo_root_Mo_no : zd_cf m_Mo_root m_Mo_no 1 := ⟨(List.mem_of_getElem? (i := 966) (by decide +kernel)), by decide +kernel, by decide, by decide, ⟨by decide, by decide⟩, by decide +kernel⟩
theorem cf_Mo_root_Mo_noMode : zd_cf m_Mo_root m_Mo_noMode 1 := ⟨(List.mem_of_getElem? (i := 1037) (by decide +kernel)), by decide +kernel, by decide, by decide, ⟨by decide, by decide⟩, by decide +kernel⟩
theorem cf_Mo_root_Mo_toPrecision : zd_cf m_Mo_root m_Mo_toPrecision 4 := ⟨(List.mem_of_getElem? (i := 1087) (by decide +kernel)), by decide +kernel, by decide, by decide, ⟨by decide, by decide⟩, by decide +kernel⟩
def dl_Mo_takesRoot : List (Nat × Instr × Nat) := [(0, .iload_n 1, 1), (1, .ifCond .le (16), 3), (4, .aload_n 0, 1), (5, .getfield 45, 3), (8, .aload_n 0, 1), (9, .getfield 174, 3), (12, .if_icmp .lt (5), 3), (15, .iconst (0), 1), (16, .ireturn, 1), (17, .aload_n 0, 1), (18, .aload_n 0, 1), (19, .getfield 174, 3), (22, .putfield 138, 3), (25, .iconst (0), 1), (26, .istore_n 2, 1), (27, .iload_n 1, 1), (28, .iload_n 1, 1), (29, .imul, 1), (30, .istore_n 3, 1), (31, .iconst (0), 1), (32, .istore 4, 2), (34, .iload 4, 2), (36, .aload_n 0, 1), (37, .getfield 138, 3), (40, .if_icmp .ge (92), 3), (43, .aload_n 0, 1), (44, .getfield 138, 3), (47, .iconst (1), 1), (48, .isub, 1), (49, .iload 4, 2), (51, .isub, 1), (52, .istore 5, 2), (54, .iload 4, 2), (56, .iconst (1), 1), (57, .if_icmp .lt (29), 3), (60, .iload 4, 2), (62, .iconst (1), 1), (63, .isub, 1), (64, .aload_n 0, 1), (65, .getfield 45, 3), (68, .if_icmp .ge (18), 3), (71, .aload_n 0, 1), (72, .getfield 26, 3), (75, .aload_n 0, 1), (76, .getfield 45, 3), (79, .iload 4, 2), (81, .isub, 1), (82, .iaload, 1), (83, .goto (4), 3), (86, .iconst (0), 1), (87, .istore 6, 2), (89, .iload 4, 2), (91, .ifCond .ne (7), 3), (94, .iload_n 3, 1), (95, .goto (9), 3), (98, .iconst (2), 1), (99, .iload 6, 2), (101, .imul, 1), (102, .iload_n 1, 1), (103, .imul, 1), (104, .iload_n 2, 1), (105, .iadd, 1), (106, .istore 7, 2), (108, .aload_n 0, 1), (109, .getfield 32, 3), (112, .iload 5, 2), (114, .iload 7, 2), (116, .bipush (10), 2), (118, .irem, 1), (119, .iastore, 1), (120, .iload 7, 2), (122, .bipush (10), 2), (124, .idiv, 1), (125, .istore_n 2, 1), (126, .iinc 4 (1), 3), (129, .goto (-95), 3), (132, .iload_n 2, 1), (133, .ifCond .le (5), 3), (136, .iconst (0), 1), (137, .ireturn, 1), (138, .iconst (0), 1), (139, .istore 4, 2), (141, .iload 4, 2), (143, .aload_n 0, 1), (144, .getfield 138, 3), (147, .if_icmp .ge (51), 3), (150, .aload_n 0, 1), (151, .getfield 35, 3), (154, .iload 4, 2), (156, .iaload, 1), (157, .aload_n 0, 1), (158, .getfield 32, 3), (161, .iload 4, 2), (163, .iaload, 1), (164, .if_icmp .eq (28), 3), (167, .aload_n 0, 1), (168, .getfield 35, 3), (171, .iload 4, 2), (173, .iaload, 1), (174, .aload_n 0, 1), (175, .getfield 32, 3), (178, .iload 4, 2), (180, .iaload, 1), (181, .if_icmp .ge (5), 3), (184, .iconst (0), 1), (185, .ireturn, 1), (186, .aload_n 0, 1), (187, .getfield 138, 3), (190, .istore 4, 2), (192, .iinc 4 (1), 3), (195, .goto (-54), 3), (198, .iconst (0), 1), (199, .istore 4, 2), (201, .aload_n 0, 1), (202, .getfield 138, 3), (205, .iconst (1), 1), (206, .isub, 1), (207, .istore 5, 2), (209, .iload 5, 2), (211, .ifCond .lt (63), 3), (214, .aload_n 0, 1), (215, .getfield 35, 3), (218, .iload 5, 2), (220, .iaload, 1), (221, .aload_n 0, 1), (222, .getfield 32, 3), (225, .iload 5, 2), (227, .iaload, 1), (228, .isub, 1), (229, .iload 4, 2), (231, .isub, 1), (232, .istore 6, 2), (234, .aload_n 0, 1), (235, .getfield 35, 3), (238, .iload 5, 2), (240, .iload 6, 2), (242, .ifCond .ge (11), 3), (245, .iload 6, 2), (247, .bipush (10), 2), (249, .iadd, 1), (250, .goto (5), 3), (253, .iload 6, 2), (255, .iastore, 1), (256, .iload 6, 2), (258, .ifCond .ge (7), 3), (261, .iconst (1), 1), (262, .goto (4), 3), (265, .iconst (0), 1), (266, .istore 4, 2), (268, .iinc 5 (-1), 3), (271, .goto (-62), 3), (274, .iconst (1), 1), (275, .ireturn, 1)]
theorem dc_Mo_takesRoot : ∀ q ∈ dl_Mo_takesRoot, decode (zd_yb m_Mo_takesRoot) q.1 = .ok q.2 := by decide +kernel
def cm_Mo_takesRoot (l : Launch) (B : zd_B) : List (Nat × zm_S) := [(0, om_p (oc_iload 1 1)), (1, om_p (oc_if_le 17 4)), (4, om_p (oc_aload 0 5)), (5, om_getf gM 8 8), (8, om_p (oc_aload 0 9)), (9, om_getf gM 17 12), (12, om_p (oc_icmp_lt 17 15)), (15, om_p (oc_ci (0) 16)), (16, om_zret), (17, om_p (oc_aload 0 18)), (18, om_p (oc_aload 0 19)), (19, om_getf gM 17 22), (22, om_puti gM 15 25), (25, om_p (oc_ci (0) 26)), (26, om_p (oc_istore 2 27)), (27, om_p (oc_iload 1 28)), (28, om_p (oc_iload 1 29)), (29, om_p (oc_imul 30)), (30, om_p (oc_istore 3 31)), (31, om_p (oc_ci (0) 32)), (32, om_p (oc_istore 4 34)), (34, om_p (oc_iload 4 36)), (36, om_p (oc_aload 0 37)), (37, om_getf gM 15 40), (40, om_p (oc_icmp_ge 132 43)), (43, om_p (oc_aload 0 44)), (44, om_getf gM 15 47), (47, om_p (oc_ci (1) 48)), (48, om_p (oc_isub 49)), (49, om_p (oc_iload 4 51)), (51, om_p (oc_isub 52)), (52, om_p (oc_istore 5 54)), (54, om_p (oc_iload 4 56)), (56, om_p (oc_ci (1) 57)), (57, om_p (oc_icmp_lt 86 60)), (60, om_p (oc_iload 4 62)), (62, om_p (oc_ci (1) 63)), (63, om_p (oc_isub 64)), (64, om_p (oc_aload 0 65)), (65, om_getf gM 8 68), (68, om_p (oc_icmp_ge 86 71)), (71, om_p (oc_aload 0 72)), (72, om_getf gM 7 75), (75, om_p (oc_aload 0 76)), (76, om_getf gM 8 79), (79, om_p (oc_iload 4 81)), (81, om_p (oc_isub 82)), (82, om_ald gM 0 83), (83, om_p (oc_goto 87)), (86, om_p (oc_ci (0) 87)), (87, om_p (oc_istore 6 89)), (89, om_p (oc_iload 4 91)), (91, om_p (oc_if_ne 98 94)), (94, om_p (oc_iload 3 95)), (95, om_p (oc_goto 104)), (98, om_p (oc_ci (2) 99)), (99, om_p (oc_iload 6 101)), (101, om_p (oc_imul 102)), (102, om_p (oc_iload 1 103)), (103, om_p (oc_imul 104)), (104, om_p (oc_iload 2 105)), (105, om_p (oc_iadd 106)), (106, om_p (oc_istore 7 108)), (108, om_p (oc_aload 0 109)), (109, om_getf gM 14 112), (112, om_p (oc_iload 5 114)), (114, om_p (oc_iload 7 116)), (116, om_p (oc_ci (10) 118)), (118, om_p (oc_irem 119)), (119, om_ast gM 0 cs_i 120), (120, om_p (oc_iload 7 122)), (122, om_p (oc_ci (10) 124)), (124, om_p (oc_idiv 125)), (125, om_p (oc_istore 2 126)), (126, om_p (oc_iinc 4 (1) 129)), (129, om_p (oc_goto 34)), (132, om_p (oc_iload 2 133)), (133, om_p (oc_if_le 138 136)), (136, om_p (oc_ci (0) 137)), (137, om_zret), (138, om_p (oc_ci (0) 139)), (139, om_p (oc_istore 4 141)), (141, om_p (oc_iload 4 143)), (143, om_p (oc_aload 0 144)), (144, om_getf gM 15 147), (147, om_p (oc_icmp_ge 198 150)), (150, om_p (oc_aload 0 151)), (151, om_getf gM 16 154), (154, om_p (oc_iload 4 156)), (156, om_ald gM 0 157), (157, om_p (oc_aload 0 158)), (158, om_getf gM 14 161), (161, om_p (oc_iload 4 163)), (163, om_ald gM 0 164), (164, om_p (oc_icmp_eq 192 167)), (167, om_p (oc_aload 0 168)), (168, om_getf gM 16 171), (171, om_p (oc_iload 4 173)), (173, om_ald gM 0 174), (174, om_p (oc_aload 0 175)), (175, om_getf gM 14 178), (178, om_p (oc_iload 4 180)), (180, om_ald gM 0 181), (181, om_p (oc_icmp_ge 186 184)), (184, om_p (oc_ci (0) 185)), (185, om_zret), (186, om_p (oc_aload 0 187)), (187, om_getf gM 15 190), (190, om_p (oc_istore 4 192)), (192, om_p (oc_iinc 4 (1) 195)), (195, om_p (oc_goto 141)), (198, om_p (oc_ci (0) 199)), (199, om_p (oc_istore 4 201)), (201, om_p (oc_aload 0 202)), (202, om_getf gM 15 205), (205, om_p (oc_ci (1) 206)), (206, om_p (oc_isub 207)), (207, om_p (oc_istore 5 209)), (209, om_p (oc_iload 5 211)), (211, om_p (oc_if_lt 274 214)), (214, om_p (oc_aload 0 215)), (215, om_getf gM 16 218), (218, om_p (oc_iload 5 220)), (220, om_ald gM 0 221), (221, om_p (oc_aload 0 222)), (222, om_getf gM 14 225), (225, om_p (oc_iload 5 227)), (227, om_ald gM 0 228), (228, om_p (oc_isub 229)), (229, om_p (oc_iload 4 231)), (231, om_p (oc_isub 232)), (232, om_p (oc_istore 6 234)), (234, om_p (oc_aload 0 235)), (235, om_getf gM 16 238), (238, om_p (oc_iload 5 240)), (240, om_p (oc_iload 6 242)), (242, om_p (oc_if_ge 253 245)), (245, om_p (oc_iload 6 247)), (247, om_p (oc_ci (10) 249)), (249, om_p (oc_iadd 250)), (250, om_p (oc_goto 255)), (253, om_p (oc_iload 6 255)), (255, om_ast gM 0 cs_i 256), (256, om_p (oc_iload 6 258)), (258, om_p (oc_if_ge 265 261)), (261, om_p (oc_ci (1) 262)), (262, om_p (oc_goto 266)), (265, om_p (oc_ci (0) 266)), (266, om_p (oc_istore 4 268)), (268, om_p (oc_iinc 5 (-1) 271)), (271, om_p (oc_goto 209)), (274, om_p (oc_ci (1) 275)), (275, om_zret)]
set_option maxRecDepth 20000 in
theorem okm_Mo_takesRoot {l : Launch} {B : zd_B} (hG : zd_G B) (hl : l.stackTraces = false) : ∀ q ∈ cm_Mo_takesRoot l B, zm_ok l B gM m_Mo_takesRoot q.1 q.2 := by
  unfold cm_Mo_takesRoot
  refine zm_ac (om_pk nt_iload (ok_iload_n (l := l) (B := B) (y := m_Mo_takesRoot) (pc := 0) (k := 1) rfl (zd_dr dc_Mo_takesRoot 0 rfl))) ?_
  refine zm_ac (om_pk nt_if_le (ok_if_le (l := l) (B := B) (y := m_Mo_takesRoot) (pc := 1) (zd_dr dc_Mo_takesRoot 1 rfl) (by decide))) ?_
  refine zm_ac (om_pk nt_aload (ok_aload_n (l := l) (B := B) (y := m_Mo_takesRoot) (pc := 4) (k := 0) rfl (zd_dr dc_Mo_takesRoot 2 rfl))) ?_
  refine zm_ac (ok_mgetf rfl (ok_getf (l := l) (B := B) (y := m_Mo_takesRoot) (pc := 5) hG (C := zR8) (T := zT8) (N := 21) (ci := 8) (k := 8) rfl zl8 (by decide) (List.mem_of_getElem? (i := 890) (by decide +kernel)) (zd_dr dc_Mo_takesRoot 3 rfl))) ?_
  refine zm_ac (om_pk nt_aload (ok_aload_n (l := l) (B := B) (y := m_Mo_takesRoot) (pc := 8) (k := 0) rfl (zd_dr dc_Mo_takesRoot 4 rfl))) ?_
  refine zm_ac (ok_mgetf rfl (ok_getf (l := l) (B := B) (y := m_Mo_takesRoot) (pc := 9) hG (C := zR8) (T := zT8) (N := 21) (ci := 8) (k := 17) rfl zl8 (by decide) (List.mem_of_getElem? (i := 899) (by decide +kernel)) (zd_dr dc_Mo_takesRoot 5 rfl))) ?_
  refine zm_ac (om_pk nt_icmp_lt (ok_icmp_lt (l := l) (B := B) (y := m_Mo_takesRoot) (pc := 12) (zd_dr dc_Mo_takesRoot 6 rfl) (by decide))) ?_
  refine zm_ac (om_pk nt_ci (ok_iconst (l := l) (B := B) (y := m_Mo_takesRoot) (pc := 15) (n := (0)) (zd_dr dc_Mo_takesRoot 7 rfl) rfl)) ?_
  refine zm_ac (ok_mzret (ok_iret (l := l) (B := B) (y := m_Mo_takesRoot) (pc := 16) rfl (zd_dr dc_Mo_takesRoot 8 rfl))) ?_
  refine zm_ac (om_pk nt_aload (ok_aload_n (l := l) (B := B) (y := m_Mo_takesRoot) (pc := 17) (k := 0) rfl (zd_dr dc_Mo_takesRoot 9 rfl))) ?_
  refine zm_ac (om_pk nt_aload (ok_aload_n (l := l) (B := B) (y := m_Mo_takesRoot) (pc := 18) (k := 0) rfl (zd_dr dc_Mo_takesRoot 10 rfl))) ?_
  refine zm_ac (ok_mgetf rfl (ok_getf (l := l) (B := B) (y := m_Mo_takesRoot) (pc := 19) hG (C := zR8) (T := zT8) (N := 21) (ci := 8) (k := 17) rfl zl8 (by decide) (List.mem_of_getElem? (i := 899) (by decide +kernel)) (zd_dr dc_Mo_takesRoot 11 rfl))) ?_
  refine zm_ac (ok_mputi rfl (ok_putf (l := l) (B := B) (y := m_Mo_takesRoot) (pc := 22) hG (C := zR8) (T := zT8) (N := 21) (ci := 8) (k := 15) rfl zl8 zt8 (by decide) (List.mem_of_getElem? (i := 897) (by decide +kernel)) rfl (zd_dr dc_Mo_takesRoot 12 rfl))) ?_
  refine zm_ac (om_pk nt_ci (ok_iconst (l := l) (B := B) (y := m_Mo_takesRoot) (pc := 25) (n := (0)) (zd_dr dc_Mo_takesRoot 13 rfl) rfl)) ?_
  refine zm_ac (om_pk nt_istore (ok_istore_n (l := l) (B := B) (y := m_Mo_takesRoot) (pc := 26) (k := 2) rfl (zd_dr dc_Mo_takesRoot 14 rfl) (by decide))) ?_
  refine zm_ac (om_pk nt_iload (ok_iload_n (l := l) (B := B) (y := m_Mo_takesRoot) (pc := 27) (k := 1) rfl (zd_dr dc_Mo_takesRoot 15 rfl))) ?_
  refine zm_ac (om_pk nt_iload (ok_iload_n (l := l) (B := B) (y := m_Mo_takesRoot) (pc := 28) (k := 1) rfl (zd_dr dc_Mo_takesRoot 16 rfl))) ?_
  refine zm_ac (om_pk nt_imul (ok_imul (l := l) (B := B) (y := m_Mo_takesRoot) (pc := 29) (zd_dr dc_Mo_takesRoot 17 rfl))) ?_
  refine zm_ac (om_pk nt_istore (ok_istore_n (l := l) (B := B) (y := m_Mo_takesRoot) (pc := 30) (k := 3) rfl (zd_dr dc_Mo_takesRoot 18 rfl) (by decide))) ?_
  refine zm_ac (om_pk nt_ci (ok_iconst (l := l) (B := B) (y := m_Mo_takesRoot) (pc := 31) (n := (0)) (zd_dr dc_Mo_takesRoot 19 rfl) rfl)) ?_
  refine zm_ac (om_pk nt_istore (ok_istore (l := l) (B := B) (y := m_Mo_takesRoot) (pc := 32) (zd_dr dc_Mo_takesRoot 20 rfl) (by decide))) ?_
  refine zm_ac (om_pk nt_iload (ok_iload (l := l) (B := B) (y := m_Mo_takesRoot) (pc := 34) (zd_dr dc_Mo_takesRoot 21 rfl))) ?_
  refine zm_ac (om_pk nt_aload (ok_aload_n (l := l) (B := B) (y := m_Mo_takesRoot) (pc := 36) (k := 0) rfl (zd_dr dc_Mo_takesRoot 22 rfl))) ?_
  refine zm_ac (ok_mgetf rfl (ok_getf (l := l) (B := B) (y := m_Mo_takesRoot) (pc := 37) hG (C := zR8) (T := zT8) (N := 21) (ci := 8) (k := 15) rfl zl8 (by decide) (List.mem_of_getElem? (i := 897) (by decide +kernel)) (zd_dr dc_Mo_takesRoot 23 rfl))) ?_
  refine zm_ac (om_pk nt_icmp_ge (ok_icmp_ge (l := l) (B := B) (y := m_Mo_takesRoot) (pc := 40) (zd_dr dc_Mo_takesRoot 24 rfl) (by decide))) ?_
  refine zm_ac (om_pk nt_aload (ok_aload_n (l := l) (B := B) (y := m_Mo_takesRoot) (pc := 43) (k := 0) rfl (zd_dr dc_Mo_takesRoot 25 rfl))) ?_
  refine zm_ac (ok_mgetf rfl (ok_getf (l := l) (B := B) (y := m_Mo_takesRoot) (pc := 44) hG (C := zR8) (T := zT8) (N := 21) (ci := 8) (k := 15) rfl zl8 (by decide) (List.mem_of_getElem? (i := 897) (by decide +kernel)) (zd_dr dc_Mo_takesRoot 26 rfl))) ?_
  refine zm_ac (om_pk nt_ci (ok_iconst (l := l) (B := B) (y := m_Mo_takesRoot) (pc := 47) (n := (1)) (zd_dr dc_Mo_takesRoot 27 rfl) rfl)) ?_
  refine zm_ac (om_pk nt_isub (ok_isub (l := l) (B := B) (y := m_Mo_takesRoot) (pc := 48) (zd_dr dc_Mo_takesRoot 28 rfl))) ?_
  refine zm_ac (om_pk nt_iload (ok_iload (l := l) (B := B) (y := m_Mo_takesRoot) (pc := 49) (zd_dr dc_Mo_takesRoot 29 rfl))) ?_
  refine zm_ac (om_pk nt_isub (ok_isub (l := l) (B := B) (y := m_Mo_takesRoot) (pc := 51) (zd_dr dc_Mo_takesRoot 30 rfl))) ?_
  refine zm_ac (om_pk nt_istore (ok_istore (l := l) (B := B) (y := m_Mo_takesRoot) (pc := 52) (zd_dr dc_Mo_takesRoot 31 rfl) (by decide))) ?_
  refine zm_ac (om_pk nt_iload (ok_iload (l := l) (B := B) (y := m_Mo_takesRoot) (pc := 54) (zd_dr dc_Mo_takesRoot 32 rfl))) ?_
  refine zm_ac (om_pk nt_ci (ok_iconst (l := l) (B := B) (y := m_Mo_takesRoot) (pc := 56) (n := (1)) (zd_dr dc_Mo_takesRoot 33 rfl) rfl)) ?_
  refine zm_ac (om_pk nt_icmp_lt (ok_icmp_lt (l := l) (B := B) (y := m_Mo_takesRoot) (pc := 57) (zd_dr dc_Mo_takesRoot 34 rfl) (by decide))) ?_
  refine zm_ac (om_pk nt_iload (ok_iload (l := l) (B := B) (y := m_Mo_takesRoot) (pc := 60) (zd_dr dc_Mo_takesRoot 35 rfl))) ?_
  refine zm_ac (om_pk nt_ci (ok_iconst (l := l) (B := B) (y := m_Mo_takesRoot) (pc := 62) (n := (1)) (zd_dr dc_Mo_takesRoot 36 rfl) rfl)) ?_
  refine zm_ac (om_pk nt_isub (ok_isub (l := l) (B := B) (y := m_Mo_takesRoot) (pc := 63) (zd_dr dc_Mo_takesRoot 37 rfl))) ?_
  refine zm_ac (om_pk nt_aload (ok_aload_n (l := l) (B := B) (y := m_Mo_takesRoot) (pc := 64) (k := 0) rfl (zd_dr dc_Mo_takesRoot 38 rfl))) ?_
  refine zm_ac (ok_mgetf rfl (ok_getf (l := l) (B := B) (y := m_Mo_takesRoot) (pc := 65) hG (C := zR8) (T := zT8) (N := 21) (ci := 8) (k := 8) rfl zl8 (by decide) (List.mem_of_getElem? (i := 890) (by decide +kernel)) (zd_dr dc_Mo_takesRoot 39 rfl))) ?_
  refine zm_ac (om_pk nt_icmp_ge (ok_icmp_ge (l := l) (B := B) (y := m_Mo_takesRoot) (pc := 68) (zd_dr dc_Mo_takesRoot 40 rfl) (by decide))) ?_
  refine zm_ac (om_pk nt_aload (ok_aload_n (l := l) (B := B) (y := m_Mo_takesRoot) (pc := 71) (k := 0) rfl (zd_dr dc_Mo_takesRoot 41 rfl))) ?_
  refine zm_ac (ok_mgetf rfl (ok_getf (l := l) (B := B) (y := m_Mo_takesRoot) (pc := 72) hG (C := zR8) (T := zT8) (N := 21) (ci := 8) (k := 7) rfl zl8 (by decide) (List.mem_of_getElem? (i := 889) (by decide +kernel)) (zd_dr dc_Mo_takesRoot 42 rfl))) ?_
  refine zm_ac (om_pk nt_aload (ok_aload_n (l := l) (B := B) (y := m_Mo_takesRoot) (pc := 75) (k := 0) rfl (zd_dr dc_Mo_takesRoot 43 rfl))) ?_
  refine zm_ac (ok_mgetf rfl (ok_getf (l := l) (B := B) (y := m_Mo_takesRoot) (pc := 76) hG (C := zR8) (T := zT8) (N := 21) (ci := 8) (k := 8) rfl zl8 (by decide) (List.mem_of_getElem? (i := 890) (by decide +kernel)) (zd_dr dc_Mo_takesRoot 44 rfl))) ?_
  refine zm_ac (om_pk nt_iload (ok_iload (l := l) (B := B) (y := m_Mo_takesRoot) (pc := 79) (zd_dr dc_Mo_takesRoot 45 rfl))) ?_
  refine zm_ac (om_pk nt_isub (ok_isub (l := l) (B := B) (y := m_Mo_takesRoot) (pc := 81) (zd_dr dc_Mo_takesRoot 46 rfl))) ?_
  refine zm_ac (ok_miaload (ok_iaload (l := l) (B := B) (y := m_Mo_takesRoot) (pc := 82) hG (zd_dr dc_Mo_takesRoot 47 rfl))) ?_
  refine zm_ac (om_pk nt_goto (ok_goto (l := l) (B := B) (y := m_Mo_takesRoot) (pc := 83) (zd_dr dc_Mo_takesRoot 48 rfl) (by decide))) ?_
  refine zm_ac (om_pk nt_ci (ok_iconst (l := l) (B := B) (y := m_Mo_takesRoot) (pc := 86) (n := (0)) (zd_dr dc_Mo_takesRoot 49 rfl) rfl)) ?_
  refine zm_ac (om_pk nt_istore (ok_istore (l := l) (B := B) (y := m_Mo_takesRoot) (pc := 87) (zd_dr dc_Mo_takesRoot 50 rfl) (by decide))) ?_
  refine zm_ac (om_pk nt_iload (ok_iload (l := l) (B := B) (y := m_Mo_takesRoot) (pc := 89) (zd_dr dc_Mo_takesRoot 51 rfl))) ?_
  refine zm_ac (om_pk nt_if_ne (ok_if_ne (l := l) (B := B) (y := m_Mo_takesRoot) (pc := 91) (zd_dr dc_Mo_takesRoot 52 rfl) (by decide))) ?_
  refine zm_ac (om_pk nt_iload (ok_iload_n (l := l) (B := B) (y := m_Mo_takesRoot) (pc := 94) (k := 3) rfl (zd_dr dc_Mo_takesRoot 53 rfl))) ?_
  refine zm_ac (om_pk nt_goto (ok_goto (l := l) (B := B) (y := m_Mo_takesRoot) (pc := 95) (zd_dr dc_Mo_takesRoot 54 rfl) (by decide))) ?_
  refine zm_ac (om_pk nt_ci (ok_iconst (l := l) (B := B) (y := m_Mo_takesRoot) (pc := 98) (n := (2)) (zd_dr dc_Mo_takesRoot 55 rfl) rfl)) ?_
  refine zm_ac (om_pk nt_iload (ok_iload (l := l) (B := B) (y := m_Mo_takesRoot) (pc := 99) (zd_dr dc_Mo_takesRoot 56 rfl))) ?_
  refine zm_ac (om_pk nt_imul (ok_imul (l := l) (B := B) (y := m_Mo_takesRoot) (pc := 101) (zd_dr dc_Mo_takesRoot 57 rfl))) ?_
  refine zm_ac (om_pk nt_iload (ok_iload_n (l := l) (B := B) (y := m_Mo_takesRoot) (pc := 102) (k := 1) rfl (zd_dr dc_Mo_takesRoot 58 rfl))) ?_
  refine zm_ac (om_pk nt_imul (ok_imul (l := l) (B := B) (y := m_Mo_takesRoot) (pc := 103) (zd_dr dc_Mo_takesRoot 59 rfl))) ?_
  refine zm_ac (om_pk nt_iload (ok_iload_n (l := l) (B := B) (y := m_Mo_takesRoot) (pc := 104) (k := 2) rfl (zd_dr dc_Mo_takesRoot 60 rfl))) ?_
  refine zm_ac (om_pk nt_iadd (ok_iadd (l := l) (B := B) (y := m_Mo_takesRoot) (pc := 105) (zd_dr dc_Mo_takesRoot 61 rfl))) ?_
  refine zm_ac (om_pk nt_istore (ok_istore (l := l) (B := B) (y := m_Mo_takesRoot) (pc := 106) (zd_dr dc_Mo_takesRoot 62 rfl) (by decide))) ?_
  refine zm_ac (om_pk nt_aload (ok_aload_n (l := l) (B := B) (y := m_Mo_takesRoot) (pc := 108) (k := 0) rfl (zd_dr dc_Mo_takesRoot 63 rfl))) ?_
  refine zm_ac (ok_mgetf rfl (ok_getf (l := l) (B := B) (y := m_Mo_takesRoot) (pc := 109) hG (C := zR8) (T := zT8) (N := 21) (ci := 8) (k := 14) rfl zl8 (by decide) (List.mem_of_getElem? (i := 896) (by decide +kernel)) (zd_dr dc_Mo_takesRoot 64 rfl))) ?_
  refine zm_ac (om_pk nt_iload (ok_iload (l := l) (B := B) (y := m_Mo_takesRoot) (pc := 112) (zd_dr dc_Mo_takesRoot 65 rfl))) ?_
  refine zm_ac (om_pk nt_iload (ok_iload (l := l) (B := B) (y := m_Mo_takesRoot) (pc := 114) (zd_dr dc_Mo_takesRoot 66 rfl))) ?_
  refine zm_ac (om_pk nt_ci (ok_bipush (l := l) (B := B) (y := m_Mo_takesRoot) (pc := 116) (n := (10)) (zd_dr dc_Mo_takesRoot 67 rfl) rfl)) ?_
  refine zm_ac (om_pk nt_irem (ok_irem (l := l) (B := B) (y := m_Mo_takesRoot) (pc := 118) (zd_dr dc_Mo_takesRoot 68 rfl))) ?_
  refine zm_ac (ok_miastore (ok_iastore (l := l) (B := B) (y := m_Mo_takesRoot) (pc := 119) hG (zd_dr dc_Mo_takesRoot 69 rfl))) ?_
  refine zm_ac (om_pk nt_iload (ok_iload (l := l) (B := B) (y := m_Mo_takesRoot) (pc := 120) (zd_dr dc_Mo_takesRoot 70 rfl))) ?_
  refine zm_ac (om_pk nt_ci (ok_bipush (l := l) (B := B) (y := m_Mo_takesRoot) (pc := 122) (n := (10)) (zd_dr dc_Mo_takesRoot 71 rfl) rfl)) ?_
  refine zm_ac (om_pk nt_idiv (ok_idiv (l := l) (B := B) (y := m_Mo_takesRoot) (pc := 124) (zd_dr dc_Mo_takesRoot 72 rfl))) ?_
  refine zm_ac (om_pk nt_istore (ok_istore_n (l := l) (B := B) (y := m_Mo_takesRoot) (pc := 125) (k := 2) rfl (zd_dr dc_Mo_takesRoot 73 rfl) (by decide))) ?_
  refine zm_ac (om_pk nt_iinc (ok_iinc (l := l) (B := B) (y := m_Mo_takesRoot) (pc := 126) (zd_dr dc_Mo_takesRoot 74 rfl) (by decide) rfl)) ?_
  refine zm_ac (om_pk nt_goto (ok_goto (l := l) (B := B) (y := m_Mo_takesRoot) (pc := 129) (zd_dr dc_Mo_takesRoot 75 rfl) (by decide))) ?_
  refine zm_ac (om_pk nt_iload (ok_iload_n (l := l) (B := B) (y := m_Mo_takesRoot) (pc := 132) (k := 2) rfl (zd_dr dc_Mo_takesRoot 76 rfl))) ?_
  refine zm_ac (om_pk nt_if_le (ok_if_le (l := l) (B := B) (y := m_Mo_takesRoot) (pc := 133) (zd_dr dc_Mo_takesRoot 77 rfl) (by decide))) ?_
  refine zm_ac (om_pk nt_ci (ok_iconst (l := l) (B := B) (y := m_Mo_takesRoot) (pc := 136) (n := (0)) (zd_dr dc_Mo_takesRoot 78 rfl) rfl)) ?_
  refine zm_ac (ok_mzret (ok_iret (l := l) (B := B) (y := m_Mo_takesRoot) (pc := 137) rfl (zd_dr dc_Mo_takesRoot 79 rfl))) ?_
  refine zm_ac (om_pk nt_ci (ok_iconst (l := l) (B := B) (y := m_Mo_takesRoot) (pc := 138) (n := (0)) (zd_dr dc_Mo_takesRoot 80 rfl) rfl)) ?_
  refine zm_ac (om_pk nt_istore (ok_istore (l := l) (B := B) (y := m_Mo_takesRoot) (pc := 139) (zd_dr dc_Mo_takesRoot 81 rfl) (by decide))) ?_
  refine zm_ac (om_pk nt_iload (ok_iload (l := l) (B := B) (y := m_Mo_takesRoot) (pc := 141) (zd_dr dc_Mo_takesRoot 82 rfl))) ?_
  refine zm_ac (om_pk nt_aload (ok_aload_n (l := l) (B := B) (y := m_Mo_takesRoot) (pc := 143) (k := 0) rfl (zd_dr dc_Mo_takesRoot 83 rfl))) ?_
  refine zm_ac (ok_mgetf rfl (ok_getf (l := l) (B := B) (y := m_Mo_takesRoot) (pc := 144) hG (C := zR8) (T := zT8) (N := 21) (ci := 8) (k := 15) rfl zl8 (by decide) (List.mem_of_getElem? (i := 897) (by decide +kernel)) (zd_dr dc_Mo_takesRoot 84 rfl))) ?_
  refine zm_ac (om_pk nt_icmp_ge (ok_icmp_ge (l := l) (B := B) (y := m_Mo_takesRoot) (pc := 147) (zd_dr dc_Mo_takesRoot 85 rfl) (by decide))) ?_
  refine zm_ac (om_pk nt_aload (ok_aload_n (l := l) (B := B) (y := m_Mo_takesRoot) (pc := 150) (k := 0) rfl (zd_dr dc_Mo_takesRoot 86 rfl))) ?_
  refine zm_ac (ok_mgetf rfl (ok_getf (l := l) (B := B) (y := m_Mo_takesRoot) (pc := 151) hG (C := zR8) (T := zT8) (N := 21) (ci := 8) (k := 16) rfl zl8 (by decide) (List.mem_of_getElem? (i := 898) (by decide +kernel)) (zd_dr dc_Mo_takesRoot 87 rfl))) ?_
  refine zm_ac (om_pk nt_iload (ok_iload (l := l) (B := B) (y := m_Mo_takesRoot) (pc := 154) (zd_dr dc_Mo_takesRoot 88 rfl))) ?_
  refine zm_ac (ok_miaload (ok_iaload (l := l) (B := B) (y := m_Mo_takesRoot) (pc := 156) hG (zd_dr dc_Mo_takesRoot 89 rfl))) ?_
  refine zm_ac (om_pk nt_aload (ok_aload_n (l := l) (B := B) (y := m_Mo_takesRoot) (pc := 157) (k := 0) rfl (zd_dr dc_Mo_takesRoot 90 rfl))) ?_
  refine zm_ac (ok_mgetf rfl (ok_getf (l := l) (B := B) (y := m_Mo_takesRoot) (pc := 158) hG (C := zR8) (T := zT8) (N := 21) (ci := 8) (k := 14) rfl zl8 (by decide) (List.mem_of_getElem? (i := 896) (by decide +kernel)) (zd_dr dc_Mo_takesRoot 91 rfl))) ?_
  refine zm_ac (om_pk nt_iload (ok_iload (l := l) (B := B) (y := m_Mo_takesRoot) (pc := 161) (zd_dr dc_Mo_takesRoot 92 rfl))) ?_
  refine zm_ac (ok_miaload (ok_iaload (l := l) (B := B) (y := m_Mo_takesRoot) (pc := 163) hG (zd_dr dc_Mo_takesRoot 93 rfl))) ?_
  refine zm_ac (om_pk nt_icmp_eq (ok_icmp_eq (l := l) (B := B) (y := m_Mo_takesRoot) (pc := 164) (zd_dr dc_Mo_takesRoot 94 rfl) (by decide))) ?_
  refine zm_ac (om_pk nt_aload (ok_aload_n (l := l) (B := B) (y := m_Mo_takesRoot) (pc := 167) (k := 0) rfl (zd_dr dc_Mo_takesRoot 95 rfl))) ?_
  refine zm_ac (ok_mgetf rfl (ok_getf (l := l) (B := B) (y := m_Mo_takesRoot) (pc := 168) hG (C := zR8) (T := zT8) (N := 21) (ci := 8) (k := 16) rfl zl8 (by decide) (List.mem_of_getElem? (i := 898) (by decide +kernel)) (zd_dr dc_Mo_takesRoot 96 rfl))) ?_
  refine zm_ac (om_pk nt_iload (ok_iload (l := l) (B := B) (y := m_Mo_takesRoot) (pc := 171) (zd_dr dc_Mo_takesRoot 97 rfl))) ?_
  refine zm_ac (ok_miaload (ok_iaload (l := l) (B := B) (y := m_Mo_takesRoot) (pc := 173) hG (zd_dr dc_Mo_takesRoot 98 rfl))) ?_
  refine zm_ac (om_pk nt_aload (ok_aload_n (l := l) (B := B) (y := m_Mo_takesRoot) (pc := 174) (k := 0) rfl (zd_dr dc_Mo_takesRoot 99 rfl))) ?_
  refine zm_ac (ok_mgetf rfl (ok_getf (l := l) (B := B) (y := m_Mo_takesRoot) (pc := 175) hG (C := zR8) (T := zT8) (N := 21) (ci := 8) (k := 14) rfl zl8 (by decide) (List.mem_of_getElem? (i := 896) (by decide +kernel)) (zd_dr dc_Mo_takesRoot 100 rfl))) ?_
  refine zm_ac (om_pk nt_iload (ok_iload (l := l) (B := B) (y := m_Mo_takesRoot) (pc := 178) (zd_dr dc_Mo_takesRoot 101 rfl))) ?_
  refine zm_ac (ok_miaload (ok_iaload (l := l) (B := B) (y := m_Mo_takesRoot) (pc := 180) hG (zd_dr dc_Mo_takesRoot 102 rfl))) ?_
  refine zm_ac (om_pk nt_icmp_ge (ok_icmp_ge (l := l) (B := B) (y := m_Mo_takesRoot) (pc := 181) (zd_dr dc_Mo_takesRoot 103 rfl) (by decide))) ?_
  refine zm_ac (om_pk nt_ci (ok_iconst (l := l) (B := B) (y := m_Mo_takesRoot) (pc := 184) (n := (0)) (zd_dr dc_Mo_takesRoot 104 rfl) rfl)) ?_
  refine zm_ac (ok_mzret (ok_iret (l := l) (B := B) (y := m_Mo_takesRoot) (pc := 185) rfl (zd_dr dc_Mo_takesRoot 105 rfl))) ?_
  refine zm_ac (om_pk nt_aload (ok_aload_n (l := l) (B := B) (y := m_Mo_takesRoot) (pc := 186) (k := 0) rfl (zd_dr dc_Mo_takesRoot 106 rfl))) ?_
  refine zm_ac (ok_mgetf rfl (ok_getf (l := l) (B := B) (y := m_Mo_takesRoot) (pc := 187) hG (C := zR8) (T := zT8) (N := 21) (ci := 8) (k := 15) rfl zl8 (by decide) (List.mem_of_getElem? (i := 897) (by decide +kernel)) (zd_dr dc_Mo_takesRoot 107 rfl))) ?_
  refine zm_ac (om_pk nt_istore (ok_istore (l := l) (B := B) (y := m_Mo_takesRoot) (pc := 190) (zd_dr dc_Mo_takesRoot 108 rfl) (by decide))) ?_
  refine zm_ac (om_pk nt_iinc (ok_iinc (l := l) (B := B) (y := m_Mo_takesRoot) (pc := 192) (zd_dr dc_Mo_takesRoot 109 rfl) (by decide) rfl)) ?_
  refine zm_ac (om_pk nt_goto (ok_goto (l := l) (B := B) (y := m_Mo_takesRoot) (pc := 195) (zd_dr dc_Mo_takesRoot 110 rfl) (by decide))) ?_
  refine zm_ac (om_pk nt_ci (ok_iconst (l := l) (B := B) (y := m_Mo_takesRoot) (pc := 198) (n := (0)) (zd_dr dc_Mo_takesRoot 111 rfl) rfl)) ?_
  refine zm_ac (om_pk nt_istore (ok_istore (l := l) (B := B) (y := m_Mo_takesRoot) (pc := 199) (zd_dr dc_Mo_takesRoot 112 rfl) (by decide))) ?_
  refine zm_ac (om_pk nt_aload (ok_aload_n (l := l) (B := B) (y := m_Mo_takesRoot) (pc := 201) (k := 0) rfl (zd_dr dc_Mo_takesRoot 113 rfl))) ?_
  refine zm_ac (ok_mgetf rfl (ok_getf (l := l) (B := B) (y := m_Mo_takesRoot) (pc := 202) hG (C := zR8) (T := zT8) (N := 21) (ci := 8) (k := 15) rfl zl8 (by decide) (List.mem_of_getElem? (i := 897) (by decide +kernel)) (zd_dr dc_Mo_takesRoot 114 rfl))) ?_
  refine zm_ac (om_pk nt_ci (ok_iconst (l := l) (B := B) (y := m_Mo_takesRoot) (pc := 205) (n := (1)) (zd_dr dc_Mo_takesRoot 115 rfl) rfl)) ?_
  refine zm_ac (om_pk nt_isub (ok_isub (l := l) (B := B) (y := m_Mo_takesRoot) (pc := 206) (zd_dr dc_Mo_takesRoot 116 rfl))) ?_
  refine zm_ac (om_pk nt_istore (ok_istore (l := l) (B := B) (y := m_Mo_takesRoot) (pc := 207) (zd_dr dc_Mo_takesRoot 117 rfl) (by decide))) ?_
  refine zm_ac (om_pk nt_iload (ok_iload (l := l) (B := B) (y := m_Mo_takesRoot) (pc := 209) (zd_dr dc_Mo_takesRoot 118 rfl))) ?_
  refine zm_ac (om_pk nt_if_lt (ok_if_lt (l := l) (B := B) (y := m_Mo_takesRoot) (pc := 211) (zd_dr dc_Mo_takesRoot 119 rfl) (by decide))) ?_
  refine zm_ac (om_pk nt_aload (ok_aload_n (l := l) (B := B) (y := m_Mo_takesRoot) (pc := 214) (k := 0) rfl (zd_dr dc_Mo_takesRoot 120 rfl))) ?_
  refine zm_ac (ok_mgetf rfl (ok_getf (l := l) (B := B) (y := m_Mo_takesRoot) (pc := 215) hG (C := zR8) (T := zT8) (N := 21) (ci := 8) (k := 16) rfl zl8 (by decide) (List.mem_of_getElem? (i := 898) (by decide +kernel)) (zd_dr dc_Mo_takesRoot 121 rfl))) ?_
  refine zm_ac (om_pk nt_iload (ok_iload (l := l) (B := B) (y := m_Mo_takesRoot) (pc := 218) (zd_dr dc_Mo_takesRoot 122 rfl))) ?_
  refine zm_ac (ok_miaload (ok_iaload (l := l) (B := B) (y := m_Mo_takesRoot) (pc := 220) hG (zd_dr dc_Mo_takesRoot 123 rfl))) ?_
  refine zm_ac (om_pk nt_aload (ok_aload_n (l := l) (B := B) (y := m_Mo_takesRoot) (pc := 221) (k := 0) rfl (zd_dr dc_Mo_takesRoot 124 rfl))) ?_
  refine zm_ac (ok_mgetf rfl (ok_getf (l := l) (B := B) (y := m_Mo_takesRoot) (pc := 222) hG (C := zR8) (T := zT8) (N := 21) (ci := 8) (k := 14) rfl zl8 (by decide) (List.mem_of_getElem? (i := 896) (by decide +kernel)) (zd_dr dc_Mo_takesRoot 125 rfl))) ?_
  refine zm_ac (om_pk nt_iload (ok_iload (l := l) (B := B) (y := m_Mo_takesRoot) (pc := 225) (zd_dr dc_Mo_takesRoot 126 rfl))) ?_
  refine zm_ac (ok_miaload (ok_iaload (l := l) (B := B) (y := m_Mo_takesRoot) (pc := 227) hG (zd_dr dc_Mo_takesRoot 127 rfl))) ?_
  refine zm_ac (om_pk nt_isub (ok_isub (l := l) (B := B) (y := m_Mo_takesRoot) (pc := 228) (zd_dr dc_Mo_takesRoot 128 rfl))) ?_
  refine zm_ac (om_pk nt_iload (ok_iload (l := l) (B := B) (y := m_Mo_takesRoot) (pc := 229) (zd_dr dc_Mo_takesRoot 129 rfl))) ?_
  refine zm_ac (om_pk nt_isub (ok_isub (l := l) (B := B) (y := m_Mo_takesRoot) (pc := 231) (zd_dr dc_Mo_takesRoot 130 rfl))) ?_
  refine zm_ac (om_pk nt_istore (ok_istore (l := l) (B := B) (y := m_Mo_takesRoot) (pc := 232) (zd_dr dc_Mo_takesRoot 131 rfl) (by decide))) ?_
  refine zm_ac (om_pk nt_aload (ok_aload_n (l := l) (B := B) (y := m_Mo_takesRoot) (pc := 234) (k := 0) rfl (zd_dr dc_Mo_takesRoot 132 rfl))) ?_
  refine zm_ac (ok_mgetf rfl (ok_getf (l := l) (B := B) (y := m_Mo_takesRoot) (pc := 235) hG (C := zR8) (T := zT8) (N := 21) (ci := 8) (k := 16) rfl zl8 (by decide) (List.mem_of_getElem? (i := 898) (by decide +kernel)) (zd_dr dc_Mo_takesRoot 133 rfl))) ?_
  refine zm_ac (om_pk nt_iload (ok_iload (l := l) (B := B) (y := m_Mo_takesRoot) (pc := 238) (zd_dr dc_Mo_takesRoot 134 rfl))) ?_
  refine zm_ac (om_pk nt_iload (ok_iload (l := l) (B := B) (y := m_Mo_takesRoot) (pc := 240) (zd_dr dc_Mo_takesRoot 135 rfl))) ?_
  refine zm_ac (om_pk nt_if_ge (ok_if_ge (l := l) (B := B) (y := m_Mo_takesRoot) (pc := 242) (zd_dr dc_Mo_takesRoot 136 rfl) (by decide))) ?_
  refine zm_ac (om_pk nt_iload (ok_iload (l := l) (B := B) (y := m_Mo_takesRoot) (pc := 245) (zd_dr dc_Mo_takesRoot 137 rfl))) ?_
  refine zm_ac (om_pk nt_ci (ok_bipush (l := l) (B := B) (y := m_Mo_takesRoot) (pc := 247) (n := (10)) (zd_dr dc_Mo_takesRoot 138 rfl) rfl)) ?_
  refine zm_ac (om_pk nt_iadd (ok_iadd (l := l) (B := B) (y := m_Mo_takesRoot) (pc := 249) (zd_dr dc_Mo_takesRoot 139 rfl))) ?_
  refine zm_ac (om_pk nt_goto (ok_goto (l := l) (B := B) (y := m_Mo_takesRoot) (pc := 250) (zd_dr dc_Mo_takesRoot 140 rfl) (by decide))) ?_
  refine zm_ac (om_pk nt_iload (ok_iload (l := l) (B := B) (y := m_Mo_takesRoot) (pc := 253) (zd_dr dc_Mo_takesRoot 141 rfl))) ?_
  refine zm_ac (ok_miastore (ok_iastore (l := l) (B := B) (y := m_Mo_takesRoot) (pc := 255) hG (zd_dr dc_Mo_takesRoot 142 rfl))) ?_
  refine zm_ac (om_pk nt_iload (ok_iload (l := l) (B := B) (y := m_Mo_takesRoot) (pc := 256) (zd_dr dc_Mo_takesRoot 143 rfl))) ?_
  refine zm_ac (om_pk nt_if_ge (ok_if_ge (l := l) (B := B) (y := m_Mo_takesRoot) (pc := 258) (zd_dr dc_Mo_takesRoot 144 rfl) (by decide))) ?_
  refine zm_ac (om_pk nt_ci (ok_iconst (l := l) (B := B) (y := m_Mo_takesRoot) (pc := 261) (n := (1)) (zd_dr dc_Mo_takesRoot 145 rfl) rfl)) ?_
  refine zm_ac (om_pk nt_goto (ok_goto (l := l) (B := B) (y := m_Mo_takesRoot) (pc := 262) (zd_dr dc_Mo_takesRoot 146 rfl) (by decide))) ?_
  refine zm_ac (om_pk nt_ci (ok_iconst (l := l) (B := B) (y := m_Mo_takesRoot) (pc := 265) (n := (0)) (zd_dr dc_Mo_takesRoot 147 rfl) rfl)) ?_
  refine zm_ac (om_pk nt_istore (ok_istore (l := l) (B := B) (y := m_Mo_takesRoot) (pc := 266) (zd_dr dc_Mo_takesRoot 148 rfl) (by decide))) ?_
  refine zm_ac (om_pk nt_iinc (ok_iinc (l := l) (B := B) (y := m_Mo_takesRoot) (pc := 268) (zd_dr dc_Mo_takesRoot 149 rfl) (by decide) rfl)) ?_
  refine zm_ac (om_pk nt_goto (ok_goto (l := l) (B := B) (y := m_Mo_takesRoot) (pc := 271) (zd_dr dc_Mo_takesRoot 150 rfl) (by decide))) ?_
  refine zm_ac (om_pk nt_ci (ok_iconst (l := l) (B := B) (y := m_Mo_takesRoot) (pc := 274) (n := (1)) (zd_dr dc_Mo_takesRoot 151 rfl) rfl)) ?_
  refine zm_ac (ok_mzret (ok_iret (l := l) (B := B) (y := m_Mo_takesRoot) (pc := 275) rfl (zd_dr dc_Mo_takesRoot 152 rfl))) ?_
  exact zm_an
def dl_Mo_nextRoot : List (Nat × Instr × Nat) := [(0, .iconst (0), 1), (1, .istore_n 3, 1), (2, .iload_n 3, 1), (3, .aload_n 0, 1), (4, .getfield 174, 3), (7, .if_icmp .ge (18), 3), (10, .aload_n 0, 1), (11, .getfield 35, 3), (14, .iload_n 3, 1), (15, .iaload, 1), (16, .ifCond .ne (9), 3), (19, .iinc 3 (1), 3), (22, .goto (-20), 3), (25, .iconst (0), 1), (26, .istore 4, 2), (28, .iload 4, 2), (30, .iload_n 3, 1), (31, .iadd, 1), (32, .aload_n 0, 1), (33, .getfield 174, 3), (36, .if_icmp .ge (25), 3), (39, .aload_n 0, 1), (40, .getfield 35, 3), (43, .iload 4, 2), (45, .aload_n 0, 1), (46, .getfield 35, 3), (49, .iload 4, 2), (51, .iload_n 3, 1), (52, .iadd, 1), (53, .iaload, 1), (54, .iastore, 1), (55, .iinc 4 (1), 3), (58, .goto (-30), 3), (61, .aload_n 0, 1), (62, .aload_n 0, 1), (63, .getfield 174, 3), (66, .iload_n 3, 1), (67, .isub, 1), (68, .putfield 174, 3), (71, .aload_n 0, 1), (72, .getfield 35, 3), (75, .aload_n 0, 1), (76, .getfield 174, 3), (79, .iload_n 1, 1), (80, .iastore, 1), (81, .aload_n 0, 1), (82, .getfield 35, 3), (85, .aload_n 0, 1), (86, .getfield 174, 3), (89, .iconst (1), 1), (90, .iadd, 1), (91, .iload_n 2, 1), (92, .iastore, 1), (93, .aload_n 0, 1), (94, .aload_n 0, 1), (95, .getfield 174, 3), (98, .iconst (2), 1), (99, .iadd, 1), (100, .putfield 174, 3), (103, .bipush (9), 2), (105, .istore 4, 2), (107, .aload_n 0, 1), (108, .iload 4, 2), (110, .invokevirtual 177, 3), (113, .ifCond .ne (9), 3), (116, .iinc 4 (-1), 3), (119, .goto (-12), 3), (122, .aload_n 0, 1), (123, .getfield 26, 3), (126, .aload_n 0, 1), (127, .getfield 45, 3), (130, .iload 4, 2), (132, .iastore, 1), (133, .aload_n 0, 1), (134, .dup, 1), (135, .getfield 45, 3), (138, .iconst (1), 1), (139, .iadd, 1), (140, .putfield 45, 3), (143, .return_, 1)]
theorem dc_Mo_nextRoot : ∀ q ∈ dl_Mo_nextRoot, decode (zd_yb m_Mo_nextRoot) q.1 = .ok q.2 := by decide +kernel
def cm_Mo_nextRoot (l : Launch) (B : zd_B) : List (Nat × zm_S) := [(0, om_p (oc_ci (0) 1)), (1, om_p (oc_istore 3 2)), (2, om_p (oc_iload 3 3)), (3, om_p (oc_aload 0 4)), (4, om_getf gM 17 7), (7, om_p (oc_icmp_ge 25 10)), (10, om_p (oc_aload 0 11)), (11, om_getf gM 16 14), (14, om_p (oc_iload 3 15)), (15, om_ald gM 0 16), (16, om_p (oc_if_ne 25 19)), (19, om_p (oc_iinc 3 (1) 22)), (22, om_p (oc_goto 2)), (25, om_p (oc_ci (0) 26)), (26, om_p (oc_istore 4 28)), (28, om_p (oc_iload 4 30)), (30, om_p (oc_iload 3 31)), (31, om_p (oc_iadd 32)), (32, om_p (oc_aload 0 33)), (33, om_getf gM 17 36), (36, om_p (oc_icmp_ge 61 39)), (39, om_p (oc_aload 0 40)), (40, om_getf gM 16 43), (43, om_p (oc_iload 4 45)), (45, om_p (oc_aload 0 46)), (46, om_getf gM 16 49), (49, om_p (oc_iload 4 51)), (51, om_p (oc_iload 3 52)), (52, om_p (oc_iadd 53)), (53, om_ald gM 0 54), (54, om_ast gM 0 cs_i 55), (55, om_p (oc_iinc 4 (1) 58)), (58, om_p (oc_goto 28)), (61, om_p (oc_aload 0 62)), (62, om_p (oc_aload 0 63)), (63, om_getf gM 17 66), (66, om_p (oc_iload 3 67)), (67, om_p (oc_isub 68)), (68, om_puti gM 17 71), (71, om_p (oc_aload 0 72)), (72, om_getf gM 16 75), (75, om_p (oc_aload 0 76)), (76, om_getf gM 17 79), (79, om_p (oc_iload 1 80)), (80, om_ast gM 0 cs_i 81), (81, om_p (oc_aload 0 82)), (82, om_getf gM 16 85), (85, om_p (oc_aload 0 86)), (86, om_getf gM 17 89), (89, om_p (oc_ci (1) 90)), (90, om_p (oc_iadd 91)), (91, om_p (oc_iload 2 92)), (92, om_ast gM 0 cs_i 93), (93, om_p (oc_aload 0 94)), (94, om_p (oc_aload 0 95)), (95, om_getf gM 17 98), (98, om_p (oc_ci (2) 99)), (99, om_p (oc_iadd 100)), (100, om_puti gM 17 103), (103, om_p (oc_ci (9) 105)), (105, om_p (oc_istore 4 107)), (107, om_p (oc_aload 0 108)), (108, om_p (oc_iload 4 110)), (110, om_callv l B gM m_Mo_takesRoot 1 113), (113, om_p (oc_if_ne 122 116)), (116, om_p (oc_iinc 4 (-1) 119)), (119, om_p (oc_goto 107)), (122, om_p (oc_aload 0 123)), (123, om_getf gM 7 126), (126, om_p (oc_aload 0 127)), (127, om_getf gM 8 130), (130, om_p (oc_iload 4 132)), (132, om_ast gM 0 cs_i 133), (133, om_p (oc_aload 0 134)), (134, om_p (oc_dup 135)), (135, om_getf gM 8 138), (138, om_p (oc_ci (1) 139)), (139, om_p (oc_iadd 140)), (140, om_puti gM 8 143), (143, om_vret)]
set_option maxRecDepth 20000 in
theorem okm_Mo_nextRoot {l : Launch} {B : zd_B} (hG : zd_G B) (hl : l.stackTraces = false) : ∀ q ∈ cm_Mo_nextRoot l B, zm_ok l B gM m_Mo_nextRoot q.1 q.2 := by
  unfold cm_Mo_nextRoot
  refine zm_ac (om_pk nt_ci (ok_iconst (l := l) (B := B) (y := m_Mo_nextRoot) (pc := 0) (n := (0)) (zd_dr dc_Mo_nextRoot 0 rfl) rfl)) ?_
  refine zm_ac (om_pk nt_istore (ok_istore_n (l := l) (B := B) (y := m_Mo_nextRoot) (pc := 1) (k := 3) rfl (zd_dr dc_Mo_nextRoot 1 rfl) (by decide))) ?_
  refine zm_ac (om_pk nt_iload (ok_iload_n (l := l) (B := B) (y := m_Mo_nextRoot) (pc := 2) (k := 3) rfl (zd_dr dc_Mo_nextRoot 2 rfl))) ?_
  refine zm_ac (om_pk nt_aload (ok_aload_n (l := l) (B := B) (y := m_Mo_nextRoot) (pc := 3) (k := 0) rfl (zd_dr dc_Mo_nextRoot 3 rfl))) ?_
  refine zm_ac (ok_mgetf rfl (ok_getf (l := l) (B := B) (y := m_Mo_nextRoot) (pc := 4) hG (C := zR8) (T := zT8) (N := 21) (ci := 8) (k := 17) rfl zl8 (by decide) (List.mem_of_getElem? (i := 899) (by decide +kernel)) (zd_dr dc_Mo_nextRoot 4 rfl))) ?_
  refine zm_ac (om_pk nt_icmp_ge (ok_icmp_ge (l := l) (B := B) (y := m_Mo_nextRoot) (pc := 7) (zd_dr dc_Mo_nextRoot 5 rfl) (by decide))) ?_
  refine zm_ac (om_pk nt_aload (ok_aload_n (l := l) (B := B) (y := m_Mo_nextRoot) (pc := 10) (k := 0) rfl (zd_dr dc_Mo_nextRoot 6 rfl))) ?_
  refine zm_ac (ok_mgetf rfl (ok_getf (l := l) (B := B) (y := m_Mo_nextRoot) (pc := 11) hG (C := zR8) (T := zT8) (N := 21) (ci := 8) (k := 16) rfl zl8 (by decide) (List.mem_of_getElem? (i := 898) (by decide +kernel)) (zd_dr dc_Mo_nextRoot 7 rfl))) ?_
  refine zm_ac (om_pk nt_iload (ok_iload_n (l := l) (B := B) (y := m_Mo_nextRoot) (pc := 14) (k := 3) rfl (zd_dr dc_Mo_nextRoot 8 rfl))) ?_
  refine zm_ac (ok_miaload (ok_iaload (l := l) (B := B) (y := m_Mo_nextRoot) (pc := 15) hG (zd_dr dc_Mo_nextRoot 9 rfl))) ?_
  refine zm_ac (om_pk nt_if_ne (ok_if_ne (l := l) (B := B) (y := m_Mo_nextRoot) (pc := 16) (zd_dr dc_Mo_nextRoot 10 rfl) (by decide))) ?_
  refine zm_ac (om_pk nt_iinc (ok_iinc (l := l) (B := B) (y := m_Mo_nextRoot) (pc := 19) (zd_dr dc_Mo_nextRoot 11 rfl) (by decide) rfl)) ?_
  refine zm_ac (om_pk nt_goto (ok_goto (l := l) (B := B) (y := m_Mo_nextRoot) (pc := 22) (zd_dr dc_Mo_nextRoot 12 rfl) (by decide))) ?_
  refine zm_ac (om_pk nt_ci (ok_iconst (l := l) (B := B) (y := m_Mo_nextRoot) (pc := 25) (n := (0)) (zd_dr dc_Mo_nextRoot 13 rfl) rfl)) ?_
  refine zm_ac (om_pk nt_istore (ok_istore (l := l) (B := B) (y := m_Mo_nextRoot) (pc := 26) (zd_dr dc_Mo_nextRoot 14 rfl) (by decide))) ?_
  refine zm_ac (om_pk nt_iload (ok_iload (l := l) (B := B) (y := m_Mo_nextRoot) (pc := 28) (zd_dr dc_Mo_nextRoot 15 rfl))) ?_
  refine zm_ac (om_pk nt_iload (ok_iload_n (l := l) (B := B) (y := m_Mo_nextRoot) (pc := 30) (k := 3) rfl (zd_dr dc_Mo_nextRoot 16 rfl))) ?_
  refine zm_ac (om_pk nt_iadd (ok_iadd (l := l) (B := B) (y := m_Mo_nextRoot) (pc := 31) (zd_dr dc_Mo_nextRoot 17 rfl))) ?_
  refine zm_ac (om_pk nt_aload (ok_aload_n (l := l) (B := B) (y := m_Mo_nextRoot) (pc := 32) (k := 0) rfl (zd_dr dc_Mo_nextRoot 18 rfl))) ?_
  refine zm_ac (ok_mgetf rfl (ok_getf (l := l) (B := B) (y := m_Mo_nextRoot) (pc := 33) hG (C := zR8) (T := zT8) (N := 21) (ci := 8) (k := 17) rfl zl8 (by decide) (List.mem_of_getElem? (i := 899) (by decide +kernel)) (zd_dr dc_Mo_nextRoot 19 rfl))) ?_
  refine zm_ac (om_pk nt_icmp_ge (ok_icmp_ge (l := l) (B := B) (y := m_Mo_nextRoot) (pc := 36) (zd_dr dc_Mo_nextRoot 20 rfl) (by decide))) ?_
  refine zm_ac (om_pk nt_aload (ok_aload_n (l := l) (B := B) (y := m_Mo_nextRoot) (pc := 39) (k := 0) rfl (zd_dr dc_Mo_nextRoot 21 rfl))) ?_
  refine zm_ac (ok_mgetf rfl (ok_getf (l := l) (B := B) (y := m_Mo_nextRoot) (pc := 40) hG (C := zR8) (T := zT8) (N := 21) (ci := 8) (k := 16) rfl zl8 (by decide) (List.mem_of_getElem? (i := 898) (by decide +kernel)) (zd_dr dc_Mo_nextRoot 22 rfl))) ?_
  refine zm_ac (om_pk nt_iload (ok_iload (l := l) (B := B) (y := m_Mo_nextRoot) (pc := 43) (zd_dr dc_Mo_nextRoot 23 rfl))) ?_
  refine zm_ac (om_pk nt_aload (ok_aload_n (l := l) (B := B) (y := m_Mo_nextRoot) (pc := 45) (k := 0) rfl (zd_dr dc_Mo_nextRoot 24 rfl))) ?_
  refine zm_ac (ok_mgetf rfl (ok_getf (l := l) (B := B) (y := m_Mo_nextRoot) (pc := 46) hG (C := zR8) (T := zT8) (N := 21) (ci := 8) (k := 16) rfl zl8 (by decide) (List.mem_of_getElem? (i := 898) (by decide +kernel)) (zd_dr dc_Mo_nextRoot 25 rfl))) ?_
  refine zm_ac (om_pk nt_iload (ok_iload (l := l) (B := B) (y := m_Mo_nextRoot) (pc := 49) (zd_dr dc_Mo_nextRoot 26 rfl))) ?_
  refine zm_ac (om_pk nt_iload (ok_iload_n (l := l) (B := B) (y := m_Mo_nextRoot) (pc := 51) (k := 3) rfl (zd_dr dc_Mo_nextRoot 27 rfl))) ?_
  refine zm_ac (om_pk nt_iadd (ok_iadd (l := l) (B := B) (y := m_Mo_nextRoot) (pc := 52) (zd_dr dc_Mo_nextRoot 28 rfl))) ?_
  refine zm_ac (ok_miaload (ok_iaload (l := l) (B := B) (y := m_Mo_nextRoot) (pc := 53) hG (zd_dr dc_Mo_nextRoot 29 rfl))) ?_
  refine zm_ac (ok_miastore (ok_iastore (l := l) (B := B) (y := m_Mo_nextRoot) (pc := 54) hG (zd_dr dc_Mo_nextRoot 30 rfl))) ?_
  refine zm_ac (om_pk nt_iinc (ok_iinc (l := l) (B := B) (y := m_Mo_nextRoot) (pc := 55) (zd_dr dc_Mo_nextRoot 31 rfl) (by decide) rfl)) ?_
  refine zm_ac (om_pk nt_goto (ok_goto (l := l) (B := B) (y := m_Mo_nextRoot) (pc := 58) (zd_dr dc_Mo_nextRoot 32 rfl) (by decide))) ?_
  refine zm_ac (om_pk nt_aload (ok_aload_n (l := l) (B := B) (y := m_Mo_nextRoot) (pc := 61) (k := 0) rfl (zd_dr dc_Mo_nextRoot 33 rfl))) ?_
  refine zm_ac (om_pk nt_aload (ok_aload_n (l := l) (B := B) (y := m_Mo_nextRoot) (pc := 62) (k := 0) rfl (zd_dr dc_Mo_nextRoot 34 rfl))) ?_
  refine zm_ac (ok_mgetf rfl (ok_getf (l := l) (B := B) (y := m_Mo_nextRoot) (pc := 63) hG (C := zR8) (T := zT8) (N := 21) (ci := 8) (k := 17) rfl zl8 (by decide) (List.mem_of_getElem? (i := 899) (by decide +kernel)) (zd_dr dc_Mo_nextRoot 35 rfl))) ?_
  refine zm_ac (om_pk nt_iload (ok_iload_n (l := l) (B := B) (y := m_Mo_nextRoot) (pc := 66) (k := 3) rfl (zd_dr dc_Mo_nextRoot 36 rfl))) ?_
  refine zm_ac (om_pk nt_isub (ok_isub (l := l) (B := B) (y := m_Mo_nextRoot) (pc := 67) (zd_dr dc_Mo_nextRoot 37 rfl))) ?_
  refine zm_ac (ok_mputi rfl (ok_putf (l := l) (B := B) (y := m_Mo_nextRoot) (pc := 68) hG (C := zR8) (T := zT8) (N := 21) (ci := 8) (k := 17) rfl zl8 zt8 (by decide) (List.mem_of_getElem? (i := 899) (by decide +kernel)) rfl (zd_dr dc_Mo_nextRoot 38 rfl))) ?_
  refine zm_ac (om_pk nt_aload (ok_aload_n (l := l) (B := B) (y := m_Mo_nextRoot) (pc := 71) (k := 0) rfl (zd_dr dc_Mo_nextRoot 39 rfl))) ?_
  refine zm_ac (ok_mgetf rfl (ok_getf (l := l) (B := B) (y := m_Mo_nextRoot) (pc := 72) hG (C := zR8) (T := zT8) (N := 21) (ci := 8) (k := 16) rfl zl8 (by decide) (List.mem_of_getElem? (i := 898) (by decide +kernel)) (zd_dr dc_Mo_nextRoot 40 rfl))) ?_
  refine zm_ac (om_pk nt_aload (ok_aload_n (l := l) (B := B) (y := m_Mo_nextRoot) (pc := 75) (k := 0) rfl (zd_dr dc_Mo_nextRoot 41 rfl))) ?_
  refine zm_ac (ok_mgetf rfl (ok_getf (l := l) (B := B) (y := m_Mo_nextRoot) (pc := 76) hG (C := zR8) (T := zT8) (N := 21) (ci := 8) (k := 17) rfl zl8 (by decide) (List.mem_of_getElem? (i := 899) (by decide +kernel)) (zd_dr dc_Mo_nextRoot 42 rfl))) ?_
  refine zm_ac (om_pk nt_iload (ok_iload_n (l := l) (B := B) (y := m_Mo_nextRoot) (pc := 79) (k := 1) rfl (zd_dr dc_Mo_nextRoot 43 rfl))) ?_
  refine zm_ac (ok_miastore (ok_iastore (l := l) (B := B) (y := m_Mo_nextRoot) (pc := 80) hG (zd_dr dc_Mo_nextRoot 44 rfl))) ?_
  refine zm_ac (om_pk nt_aload (ok_aload_n (l := l) (B := B) (y := m_Mo_nextRoot) (pc := 81) (k := 0) rfl (zd_dr dc_Mo_nextRoot 45 rfl))) ?_
  refine zm_ac (ok_mgetf rfl (ok_getf (l := l) (B := B) (y := m_Mo_nextRoot) (pc := 82) hG (C := zR8) (T := zT8) (N := 21) (ci := 8) (k := 16) rfl zl8 (by decide) (List.mem_of_getElem? (i := 898) (by decide +kernel)) (zd_dr dc_Mo_nextRoot 46 rfl))) ?_
  refine zm_ac (om_pk nt_aload (ok_aload_n (l := l) (B := B) (y := m_Mo_nextRoot) (pc := 85) (k := 0) rfl (zd_dr dc_Mo_nextRoot 47 rfl))) ?_
  refine zm_ac (ok_mgetf rfl (ok_getf (l := l) (B := B) (y := m_Mo_nextRoot) (pc := 86) hG (C := zR8) (T := zT8) (N := 21) (ci := 8) (k := 17) rfl zl8 (by decide) (List.mem_of_getElem? (i := 899) (by decide +kernel)) (zd_dr dc_Mo_nextRoot 48 rfl))) ?_
  refine zm_ac (om_pk nt_ci (ok_iconst (l := l) (B := B) (y := m_Mo_nextRoot) (pc := 89) (n := (1)) (zd_dr dc_Mo_nextRoot 49 rfl) rfl)) ?_
  refine zm_ac (om_pk nt_iadd (ok_iadd (l := l) (B := B) (y := m_Mo_nextRoot) (pc := 90) (zd_dr dc_Mo_nextRoot 50 rfl))) ?_
  refine zm_ac (om_pk nt_iload (ok_iload_n (l := l) (B := B) (y := m_Mo_nextRoot) (pc := 91) (k := 2) rfl (zd_dr dc_Mo_nextRoot 51 rfl))) ?_
  refine zm_ac (ok_miastore (ok_iastore (l := l) (B := B) (y := m_Mo_nextRoot) (pc := 92) hG (zd_dr dc_Mo_nextRoot 52 rfl))) ?_
  refine zm_ac (om_pk nt_aload (ok_aload_n (l := l) (B := B) (y := m_Mo_nextRoot) (pc := 93) (k := 0) rfl (zd_dr dc_Mo_nextRoot 53 rfl))) ?_
  refine zm_ac (om_pk nt_aload (ok_aload_n (l := l) (B := B) (y := m_Mo_nextRoot) (pc := 94) (k := 0) rfl (zd_dr dc_Mo_nextRoot 54 rfl))) ?_
  refine zm_ac (ok_mgetf rfl (ok_getf (l := l) (B := B) (y := m_Mo_nextRoot) (pc := 95) hG (C := zR8) (T := zT8) (N := 21) (ci := 8) (k := 17) rfl zl8 (by decide) (List.mem_of_getElem? (i := 899) (by decide +kernel)) (zd_dr dc_Mo_nextRoot 55 rfl))) ?_
  refine zm_ac (om_pk nt_ci (ok_iconst (l := l) (B := B) (y := m_Mo_nextRoot) (pc := 98) (n := (2)) (zd_dr dc_Mo_nextRoot 56 rfl) rfl)) ?_
  refine zm_ac (om_pk nt_iadd (ok_iadd (l := l) (B := B) (y := m_Mo_nextRoot) (pc := 99) (zd_dr dc_Mo_nextRoot 57 rfl))) ?_
  refine zm_ac (ok_mputi rfl (ok_putf (l := l) (B := B) (y := m_Mo_nextRoot) (pc := 100) hG (C := zR8) (T := zT8) (N := 21) (ci := 8) (k := 17) rfl zl8 zt8 (by decide) (List.mem_of_getElem? (i := 899) (by decide +kernel)) rfl (zd_dr dc_Mo_nextRoot 58 rfl))) ?_
  refine zm_ac (om_pk nt_ci (ok_bipush (l := l) (B := B) (y := m_Mo_nextRoot) (pc := 103) (n := (9)) (zd_dr dc_Mo_nextRoot 59 rfl) rfl)) ?_
  refine zm_ac (om_pk nt_istore (ok_istore (l := l) (B := B) (y := m_Mo_nextRoot) (pc := 105) (zd_dr dc_Mo_nextRoot 60 rfl) (by decide))) ?_
  refine zm_ac (om_pk nt_aload (ok_aload_n (l := l) (B := B) (y := m_Mo_nextRoot) (pc := 107) (k := 0) rfl (zd_dr dc_Mo_nextRoot 61 rfl))) ?_
  refine zm_ac (om_pk nt_iload (ok_iload (l := l) (B := B) (y := m_Mo_nextRoot) (pc := 108) (zd_dr dc_Mo_nextRoot 62 rfl))) ?_
  refine zm_ac (ok_mcallv rfl (ok_callv (l := l) (B := B) (y := m_Mo_nextRoot) (pc := 110) hG (ci := 8) rfl cf_Mo_nextRoot_Mo_takesRoot rfl (List.mem_of_getElem? (i := 1112) (by decide +kernel)) (List.mem_of_getElem? (i := 1114) (by decide +kernel)) (List.mem_of_getElem? (i := 51) (by decide +kernel)) (zd_dr dc_Mo_nextRoot 63 rfl))) ?_
  refine zm_ac (om_pk nt_if_ne (ok_if_ne (l := l) (B := B) (y := m_Mo_nextRoot) (pc := 113) (zd_dr dc_Mo_nextRoot 64 rfl) (by decide))) ?_
  refine zm_ac (om_pk nt_iinc (ok_iinc (l := l) (B := B) (y := m_Mo_nextRoot) (pc := 116) (zd_dr dc_Mo_nextRoot 65 rfl) (by decide) rfl)) ?_
  refine zm_ac (om_pk nt_goto (ok_goto (l := l) (B := B) (y := m_Mo_nextRoot) (pc := 119) (zd_dr dc_Mo_nextRoot 66 rfl) (by decide))) ?_
  refine zm_ac (om_pk nt_aload (ok_aload_n (l := l) (B := B) (y := m_Mo_nextRoot) (pc := 122) (k := 0) rfl (zd_dr dc_Mo_nextRoot 67 rfl))) ?_
  refine zm_ac (ok_mgetf rfl (ok_getf (l := l) (B := B) (y := m_Mo_nextRoot) (pc := 123) hG (C := zR8) (T := zT8) (N := 21) (ci := 8) (k := 7) rfl zl8 (by decide) (List.mem_of_getElem? (i := 889) (by decide +kernel)) (zd_dr dc_Mo_nextRoot 68 rfl))) ?_
  refine zm_ac (om_pk nt_aload (ok_aload_n (l := l) (B := B) (y := m_Mo_nextRoot) (pc := 126) (k := 0) rfl (zd_dr dc_Mo_nextRoot 69 rfl))) ?_
  refine zm_ac (ok_mgetf rfl (ok_getf (l := l) (B := B) (y := m_Mo_nextRoot) (pc := 127) hG (C := zR8) (T := zT8) (N := 21) (ci := 8) (k := 8) rfl zl8 (by decide) (List.mem_of_getElem? (i := 890) (by decide +kernel)) (zd_dr dc_Mo_nextRoot 70 rfl))) ?_
  refine zm_ac (om_pk nt_iload (ok_iload (l := l) (B := B) (y := m_Mo_nextRoot) (pc := 130) (zd_dr dc_Mo_nextRoot 71 rfl))) ?_
  refine zm_ac (ok_miastore (ok_iastore (l := l) (B := B) (y := m_Mo_nextRoot) (pc := 132) hG (zd_dr dc_Mo_nextRoot 72 rfl))) ?_
  refine zm_ac (om_pk nt_aload (ok_aload_n (l := l) (B := B) (y := m_Mo_nextRoot) (pc := 133) (k := 0) rfl (zd_dr dc_Mo_nextRoot 73 rfl))) ?_
  refine zm_ac (om_pk nt_dup (ok_dup (l := l) (B := B) (y := m_Mo_nextRoot) (pc := 134) (zd_dr dc_Mo_nextRoot 74 rfl))) ?_
  refine zm_ac (ok_mgetf rfl (ok_getf (l := l) (B := B) (y := m_Mo_nextRoot) (pc := 135) hG (C := zR8) (T := zT8) (N := 21) (ci := 8) (k := 8) rfl zl8 (by decide) (List.mem_of_getElem? (i := 890) (by decide +kernel)) (zd_dr dc_Mo_nextRoot 75 rfl))) ?_
  refine zm_ac (om_pk nt_ci (ok_iconst (l := l) (B := B) (y := m_Mo_nextRoot) (pc := 138) (n := (1)) (zd_dr dc_Mo_nextRoot 76 rfl) rfl)) ?_
  refine zm_ac (om_pk nt_iadd (ok_iadd (l := l) (B := B) (y := m_Mo_nextRoot) (pc := 139) (zd_dr dc_Mo_nextRoot 77 rfl))) ?_
  refine zm_ac (ok_mputi rfl (ok_putf (l := l) (B := B) (y := m_Mo_nextRoot) (pc := 140) hG (C := zR8) (T := zT8) (N := 21) (ci := 8) (k := 8) rfl zl8 zt8 (by decide) (List.mem_of_getElem? (i := 890) (by decide +kernel)) rfl (zd_dr dc_Mo_nextRoot 78 rfl))) ?_
  refine zm_ac (ok_mvret (ok_vret (l := l) (B := B) (y := m_Mo_nextRoot) (pc := 143) rfl (zd_dr dc_Mo_nextRoot 79 rfl))) ?_
  exact zm_an
def dl_Mo_root : List (Nat × Instr × Nat) := [(0, .aload_n 0, 1), (1, .iload_n 1, 1), (2, .invokestatic 113, 3), (5, .ifCond .ne (30), 3), (8, .iload_n 2, 1), (9, .invokestatic 113, 3), (12, .ifCond .ne (23), 3), (15, .iload 4, 2), (17, .invokestatic 147, 3), (20, .ifCond .ne (15), 3), (23, .iload_n 3, 1), (24, .iconst (1), 1), (25, .if_icmp .lt (10), 3), (28, .iload_n 3, 1), (29, .sipush (1000), 3), (32, .if_icmp .le (7), 3), (35, .iconst (1), 1), (36, .goto (17), 3), (39, .aload_n 0, 1), (40, .getfield 19, 3), (43, .iload_n 1, 1), (44, .baload, 1), (45, .ifCond .eq (7), 3), (48, .iconst (2), 1), (49, .goto (4), 3), (52, .iconst (0), 1), (53, .putfield 41, 3), (56, .aload_n 0, 1), (57, .getfield 41, 3), (60, .ifCond .le (4), 3), (63, .return_, 1), (64, .aload_n 0, 1), (65, .iconst (2), 1), (66, .putfield 66, 3), (69, .aload_n 0, 1), (70, .getfield 23, 3), (73, .iload_n 1, 1), (74, .iaload, 1), (75, .istore 5, 2), (77, .iload 5, 2), (79, .ifCond .lt (11), 3), (82, .iload 5, 2), (84, .iconst (2), 1), (85, .idiv, 1), (86, .i2l, 1), (87, .goto (11), 3), (90, .iconst (1), 1), (91, .iload 5, 2), (93, .isub, 1), (94, .iconst (2), 1), (95, .idiv, 1), (96, .ineg, 1), (97, .i2l, 1), (98, .lstore 6, 2), (100, .aload_n 0, 1), (101, .iload_n 1, 1), (102, .invokevirtual 120, 3), (105, .ifCond .eq (19), 3), (108, .aload_n 0, 1), (109, .iload_n 1, 1), (110, .invokevirtual 132, 3), (113, .aload_n 0, 1), (114, .iload_n 3, 1), (115, .lload 6, 2), (117, .iload 4, 2), (119, .iload_n 2, 1), (120, .invokevirtual 166, 3), (123, .return_, 1), (124, .aload_n 0, 1), (125, .iconst (0), 1), (126, .putfield 180, 3), (129, .iload 5, 2), (131, .iconst (2), 1), (132, .irem, 1), (133, .ifCond .eq (7), 3), (136, .iconst (1), 1), (137, .goto (4), 3), (140, .iconst (0), 1), (141, .istore 8, 2), (143, .aload_n 0, 1), (144, .getfield 16, 3), (147, .iload_n 1, 1), (148, .iaload, 1), (149, .iload 8, 2), (151, .ifCond .eq (7), 3), (154, .iconst (1), 1), (155, .goto (4), 3), (158, .iconst (0), 1), (159, .iadd, 1), (160, .iconst (2), 1), (161, .irem, 1), (162, .iconst (1), 1), (163, .if_icmp .ne (15), 3), (166, .aload_n 0, 1), (167, .getfield 29, 3), (170, .iconst (0), 1), (171, .iconst (0), 1), (172, .iastore, 1), (173, .aload_n 0, 1), (174, .iconst (1), 1), (175, .putfield 180, 3), (178, .iconst (0), 1), (179, .istore 9, 2), (181, .iload 9, 2), (183, .aload_n 0, 1), (184, .getfield 16, 3), (187, .iload_n 1, 1), (188, .iaload, 1), (189, .if_icmp .ge (41), 3), (192, .aload_n 0, 1), (193, .getfield 29, 3), (196, .aload_n 0, 1), (197, .getfield 180, 3), (200, .aload_n 0, 1), (201, .getfield 13, 3), (204, .sipush (1000), 3), (207, .iload_n 1, 1), (208, .imul, 1), (209, .iload 9, 2), (211, .iadd, 1), (212, .iaload, 1), (213, .iastore, 1), (214, .aload_n 0, 1), (215, .dup, 1), (216, .getfield 180, 3), (219, .iconst (1), 1), (220, .iadd, 1), (221, .putfield 180, 3), (224, .iinc 9 (1), 3), (227, .goto (-46), 3), (230, .iload 8, 2), (232, .ifCond .eq (23), 3), (235, .aload_n 0, 1), (236, .getfield 29, 3), (239, .aload_n 0, 1), (240, .getfield 180, 3), (243, .iconst (0), 1), (244, .iastore, 1), (245, .aload_n 0, 1), (246, .dup, 1), (247, .getfield 180, 3), (250, .iconst (1), 1), (251, .iadd, 1), (252, .putfield 180, 3), (255, .aload_n 0, 1), (256, .iconst (0), 1), (257, .putfield 45, 3), (260, .aload_n 0, 1), (261, .iconst (0), 1), (262, .putfield 174, 3), (265, .iconst (0), 1), (266, .istore 9, 2), (268, .iload 9, 2), (270, .aload_n 0, 1), (271, .getfield 180, 3), (274, .if_icmp .ge (29), 3), (277, .aload_n 0, 1), (278, .aload_n 0, 1), (279, .getfield 29, 3), (282, .iload 9, 2), (284, .iaload, 1), (285, .aload_n 0, 1), (286, .getfield 29, 3), (289, .iload 9, 2), (291, .iconst (1), 1), (292, .iadd, 1), (293, .iaload, 1), (294, .invokevirtual 183, 3), (297, .iinc 9 (2), 3), (300, .goto (-32), 3), (303, .aload_n 0, 1), (304, .iload 8, 2), (306, .ifCond .eq (13), 3), (309, .iload 5, 2), (311, .iconst (1), 1), (312, .iadd, 1), (313, .iconst (2), 1), (314, .idiv, 1), (315, .i2l, 1), (316, .goto (8), 3), (319, .iload 5, 2), (321, .iconst (2), 1), (322, .idiv, 1), (323, .i2l, 1), (324, .putfield 48, 3), (327, .iconst (1), 1), (328, .istore 9, 2), (330, .iload 9, 2), (332, .ifCond .eq (78), 3), (335, .aload_n 0, 1), (336, .getfield 45, 3), (339, .iload_n 3, 1), (340, .if_icmp .gt (70), 3), (343, .iconst (0), 1), (344, .istore 9, 2), (346, .iconst (0), 1), (347, .istore 10, 2), (349, .iload 10, 2), (351, .aload_n 0, 1), (352, .getfield 174, 3), (355, .if_icmp .ge (31), 3), (358, .iload 9, 2), (360, .ifCond .ne (13), 3), (363, .aload_n 0, 1), (364, .getfield 35, 3), (367, .iload 10, 2), (369, .iaload, 1), (370, .ifCond .eq (7), 3), (373, .iconst (1), 1), (374, .goto (4), 3), (377, .iconst (0), 1), (378, .istore 9, 2), (380, .iinc 10 (1), 3), (383, .goto (-34), 3), (386, .iload 9, 2), (388, .ifCond .eq (-58), 3), (391, .aload_n 0, 1), (392, .iconst (0), 1), (393, .iconst (0), 1), (394, .invokevirtual 183, 3), (397, .aload_n 0, 1), (398, .dup, 1), (399, .getfield 48, 3), (402, .lconst 1, 1), (403, .ladd, 1), (404, .putfield 48, 3), (407, .goto (-77), 3), (410, .aload_n 0, 1), (411, .iconst (0), 1), (412, .putfield 52, 3), (415, .iconst (0), 1), (416, .istore 10, 2), (418, .iload 10, 2), (420, .aload_n 0, 1), (421, .getfield 174, 3), (424, .if_icmp .ge (35), 3), (427, .aload_n 0, 1), (428, .aload_n 0, 1), (429, .getfield 52, 3), (432, .ifCond .ne (13), 3), (435, .aload_n 0, 1), (436, .getfield 35, 3), (439, .iload 10, 2), (441, .iaload, 1), (442, .ifCond .eq (7), 3), (445, .iconst (1), 1), (446, .goto (4), 3), (449, .iconst (0), 1), (450, .putfield 52, 3), (453, .iinc 10 (1), 3), (456, .goto (-38), 3), (459, .aload_n 0, 1), (460, .iconst (0), 1), (461, .putfield 56, 3), (464, .aload_n 0, 1), (465, .iload_n 3, 1), (466, .lload 6, 2), (468, .iload 4, 2), (470, .iload_n 2, 1), (471, .invokevirtual 166, 3), (474, .return_, 1)]
theorem dc_Mo_root : ∀ q ∈ dl_Mo_root, decode (zd_yb m_Mo_root) q.1 = .ok q.2 := by decide +kernel
def cm_Mo_root (l : Launch) (B : zd_B) : List (Nat × zm_S) := [(0, om_p (oc_aload 0 1)), (1, om_p (oc_iload 1 2)), (2, om_calls l B gM m_Mo_no 1 5), (5, om_p (oc_if_ne 35 8)), (8, om_p (oc_iload 2 9)), (9, om_calls l B gM m_Mo_no 1 12), (12, om_p (oc_if_ne 35 15)), (15, om_p (oc_iload 4 17)), (17, om_calls l B gM m_Mo_noMode 1 20), (20, om_p (oc_if_ne 35 23)), (23, om_p (oc_iload 3 24)), (24, om_p (oc_ci (1) 25)), (25, om_p (oc_icmp_lt 35 28)), (28, om_p (oc_iload 3 29)), (29, om_p (oc_ci (1000) 32)), (32, om_p (oc_icmp_le 39 35)), (35, om_p (oc_ci (1) 36)), (36, om_p (oc_goto 53)), (39, om_p (oc_aload 0 40)), (40, om_getf gM 5 43), (43, om_p (oc_iload 1 44)), (44, om_ald gM 2 45), (45, om_p (oc_if_eq 52 48)), (48, om_p (oc_ci (2) 49)), (49, om_p (oc_goto 53)), (52, om_p (oc_ci (0) 53)), (53, om_puti gM 0 56), (56, om_p (oc_aload 0 57)), (57, om_getf gM 0 60), (60, om_p (oc_if_le 64 63)), (63, om_vret), (64, om_p (oc_aload 0 65)), (65, om_p (oc_ci (2) 66)), (66, om_puti gM 20 69), (69, om_p (oc_aload 0 70)), (70, om_getf gM 6 73), (73, om_p (oc_iload 1 74)), (74, om_ald gM 0 75), (75, om_p (oc_istore 5 77)), (77, om_p (oc_iload 5 79)), (79, om_p (oc_if_lt 90 82)), (82, om_p (oc_iload 5 84)), (84, om_p (oc_ci (2) 85)), (85, om_p (oc_idiv 86)), (86, om_p (oc_i2l 87)), (87, om_p (oc_goto 98)), (90, om_p (oc_ci (1) 91)), (91, om_p (oc_iload 5 93)), (93, om_p (oc_isub 94)), (94, om_p (oc_ci (2) 95)), (95, om_p (oc_idiv 96)), (96, om_p (oc_ineg 97)), (97, om_p (oc_i2l 98)), (98, om_p (oc_lstore 6 100)), (100, om_p (oc_aload 0 101)), (101, om_p (oc_iload 1 102)), (102, om_callv l B gM m_Mo_isZero 1 105), (105, om_p (oc_if_eq 124 108)), (108, om_p (oc_aload 0 109)), (109, om_p (oc_iload 1 110)), (110, om_callv l B gM m_Mo_load 1 113), (113, om_p (oc_aload 0 114)), (114, om_p (oc_iload 3 115)), (115, om_p (oc_lload 6 117)), (117, om_p (oc_iload 4 119)), (119, om_p (oc_iload 2 120)), (120, om_callv l B gM m_Mo_toPrecision 4 123), (123, om_vret), (124, om_p (oc_aload 0 125)), (125, om_p (oc_ci (0) 126)), (126, om_puti gM 13 129), (129, om_p (oc_iload 5 131)), (131, om_p (oc_ci (2) 132)), (132, om_p (oc_irem 133)), (133, om_p (oc_if_eq 140 136)), (136, om_p (oc_ci (1) 137)), (137, om_p (oc_goto 141)), (140, om_p (oc_ci (0) 141)), (141, om_p (oc_istore 8 143)), (143, om_p (oc_aload 0 144)), (144, om_getf gM 4 147), (147, om_p (oc_iload 1 148)), (148, om_ald gM 0 149), (149, om_p (oc_iload 8 151)), (151, om_p (oc_if_eq 158 154)), (154, om_p (oc_ci (1) 155)), (155, om_p (oc_goto 159)), (158, om_p (oc_ci (0) 159)), (159, om_p (oc_iadd 160)), (160, om_p (oc_ci (2) 161)), (161, om_p (oc_irem 162)), (162, om_p (oc_ci (1) 163)), (163, om_p (oc_icmp_ne 178 166)), (166, om_p (oc_aload 0 167)), (167, om_getf gM 12 170), (170, om_p (oc_ci (0) 171)), (171, om_p (oc_ci (0) 172)), (172, om_ast gM 0 cs_i 173), (173, om_p (oc_aload 0 174)), (174, om_p (oc_ci (1) 175)), (175, om_puti gM 13 178), (178, om_p (oc_ci (0) 179)), (179, om_p (oc_istore 9 181)), (181, om_p (oc_iload 9 183)), (183, om_p (oc_aload 0 184)), (184, om_getf gM 4 187), (187, om_p (oc_iload 1 188)), (188, om_ald gM 0 189), (189, om_p (oc_icmp_ge 230 192)), (192, om_p (oc_aload 0 193)), (193, om_getf gM 12 196), (196, om_p (oc_aload 0 197)), (197, om_getf gM 13 200), (200, om_p (oc_aload 0 201)), (201, om_getf gM 3 204), (204, om_p (oc_ci (1000) 207)), (207, om_p (oc_iload 1 208)), (208, om_p (oc_imul 209)), (209, om_p (oc_iload 9 211)), (211, om_p (oc_iadd 212)), (212, om_ald gM 0 213), (213, om_ast gM 0 cs_i 214), (214, om_p (oc_aload 0 215)), (215, om_p (oc_dup 216)), (216, om_getf gM 13 219), (219, om_p (oc_ci (1) 220)), (220, om_p (oc_iadd 221)), (221, om_puti gM 13 224), (224, om_p (oc_iinc 9 (1) 227)), (227, om_p (oc_goto 181)), (230, om_p (oc_iload 8 232)), (232, om_p (oc_if_eq 255 235)), (235, om_p (oc_aload 0 236)), (236, om_getf gM 12 239), (239, om_p (oc_aload 0 240)), (240, om_getf gM 13 243), (243, om_p (oc_ci (0) 244)), (244, om_ast gM 0 cs_i 245), (245, om_p (oc_aload 0 246)), (246, om_p (oc_dup 247)), (247, om_getf gM 13 250), (250, om_p (oc_ci (1) 251)), (251, om_p (oc_iadd 252)), (252, om_puti gM 13 255), (255, om_p (oc_aload 0 256)), (256, om_p (oc_ci (0) 257)), (257, om_puti gM 8 260), (260, om_p (oc_aload 0 261)), (261, om_p (oc_ci (0) 262)), (262, om_puti gM 17 265), (265, om_p (oc_ci (0) 266)), (266, om_p (oc_istore 9 268)), (268, om_p (oc_iload 9 270)), (270, om_p (oc_aload 0 271)), (271, om_getf gM 13 274), (274, om_p (oc_icmp_ge 303 277)), (277, om_p (oc_aload 0 278)), (278, om_p (oc_aload 0 279)), (279, om_getf gM 12 282), (282, om_p (oc_iload 9 284)), (284, om_ald gM 0 285), (285, om_p (oc_aload 0 286)), (286, om_getf gM 12 289), (289, om_p (oc_iload 9 291)), (291, om_p (oc_ci (1) 292)), (292, om_p (oc_iadd 293)), (293, om_ald gM 0 294), (294, om_callv l B gM m_Mo_nextRoot 2 297), (297, om_p (oc_iinc 9 (2) 300)), (300, om_p (oc_goto 268)), (303, om_p (oc_aload 0 304)), (304, om_p (oc_iload 8 306)), (306, om_p (oc_if_eq 319 309)), (309, om_p (oc_iload 5 311)), (311, om_p (oc_ci (1) 312)), (312, om_p (oc_iadd 313)), (313, om_p (oc_ci (2) 314)), (314, om_p (oc_idiv 315)), (315, om_p (oc_i2l 316)), (316, om_p (oc_goto 324)), (319, om_p (oc_iload 5 321)), (321, om_p (oc_ci (2) 322)), (322, om_p (oc_idiv 323)), (323, om_p (oc_i2l 324)), (324, om_putl gM 9 327), (327, om_p (oc_ci (1) 328)), (328, om_p (oc_istore 9 330)), (330, om_p (oc_iload 9 332)), (332, om_p (oc_if_eq 410 335)), (335, om_p (oc_aload 0 336)), (336, om_getf gM 8 339), (339, om_p (oc_iload 3 340)), (340, om_p (oc_icmp_gt 410 343)), (343, om_p (oc_ci (0) 344)), (344, om_p (oc_istore 9 346)), (346, om_p (oc_ci (0) 347)), (347, om_p (oc_istore 10 349)), (349, om_p (oc_iload 10 351)), (351, om_p (oc_aload 0 352)), (352, om_getf gM 17 355), (355, om_p (oc_icmp_ge 386 358)), (358, om_p (oc_iload 9 360)), (360, om_p (oc_if_ne 373 363)), (363, om_p (oc_aload 0 364)), (364, om_getf gM 16 367), (367, om_p (oc_iload 10 369)), (369, om_ald gM 0 370), (370, om_p (oc_if_eq 377 373)), (373, om_p (oc_ci (1) 374)), (374, om_p (oc_goto 378)), (377, om_p (oc_ci (0) 378)), (378, om_p (oc_istore 9 380)), (380, om_p (oc_iinc 10 (1) 383)), (383, om_p (oc_goto 349)), (386, om_p (oc_iload 9 388)), (388, om_p (oc_if_eq 330 391)), (391, om_p (oc_aload 0 392)), (392, om_p (oc_ci (0) 393)), (393, om_p (oc_ci (0) 394)), (394, om_callv l B gM m_Mo_nextRoot 2 397), (397, om_p (oc_aload 0 398)), (398, om_p (oc_dup 399)), (399, om_getf gM 9 402), (402, om_p (oc_cl 1 403)), (403, om_p (oc_ladd 404)), (404, om_putl gM 9 407), (407, om_p (oc_goto 330)), (410, om_p (oc_aload 0 411)), (411, om_p (oc_ci (0) 412)), (412, om_putb gM 10 415), (415, om_p (oc_ci (0) 416)), (416, om_p (oc_istore 10 418)), (418, om_p (oc_iload 10 420)), (420, om_p (oc_aload 0 421)), (421, om_getf gM 17 424), (424, om_p (oc_icmp_ge 459 427)), (427, om_p (oc_aload 0 428)), (428, om_p (oc_aload 0 429)), (429, om_getf gM 10 432), (432, om_p (oc_if_ne 445 435)), (435, om_p (oc_aload 0 436)), (436, om_getf gM 16 439), (439, om_p (oc_iload 10 441)), (441, om_ald gM 0 442), (442, om_p (oc_if_eq 449 445)), (445, om_p (oc_ci (1) 446)), (446, om_p (oc_goto 450)), (449, om_p (oc_ci (0) 450)), (450, om_putb gM 10 453), (453, om_p (oc_iinc 10 (1) 456)), (456, om_p (oc_goto 418)), (459, om_p (oc_aload 0 460)), (460, om_p (oc_ci (0) 461)), (461, om_putb gM 11 464), (464, om_p (oc_aload 0 465)), (465, om_p (oc_iload 3 466)), (466, om_p (oc_lload 6 468)), (468, om_p (oc_iload 4 470)), (470, om_p (oc_iload 2 471)), (471, om_callv l B gM m_Mo_toPrecision 4 474), (474, om_vret)]
set_option maxRecDepth 20000 in
theorem okm_Mo_root {l : Launch} {B : zd_B} (hG : zd_G B) (hl : l.stackTraces = false) : ∀ q ∈ cm_Mo_root l B, zm_ok l B gM m_Mo_root q.1 q.2 := by
  unfold cm_Mo_root
  refine zm_ac (om_pk nt_aload (ok_aload_n (l := l) (B := B) (y := m_Mo_root) (pc := 0) (k := 0) rfl (zd_dr dc_Mo_root 0 rfl))) ?_
  refine zm_ac (om_pk nt_iload (ok_iload_n (l := l) (B := B) (y := m_Mo_root) (pc := 1) (k := 1) rfl (zd_dr dc_Mo_root 1 rfl))) ?_
  refine zm_ac (ok_mcalls (ok_calls (l := l) (B := B) (y := m_Mo_root) (pc := 2) hG cf_Mo_root_Mo_no rfl (List.mem_of_getElem? (i := 964) (by decide +kernel)) (List.mem_of_getElem? (i := 965) (by decide +kernel)) (List.mem_of_getElem? (i := 64) (by decide +kernel)) (zd_dr dc_Mo_root 2 rfl))) ?_
  refine zm_ac (om_pk nt_if_ne (ok_if_ne (l := l) (B := B) (y := m_Mo_root) (pc := 5) (zd_dr dc_Mo_root 3 rfl) (by decide))) ?_
  refine zm_ac (om_pk nt_iload (ok_iload_n (l := l) (B := B) (y := m_Mo_root) (pc := 8) (k := 2) rfl (zd_dr dc_Mo_root 4 rfl))) ?_
  refine zm_ac (ok_mcalls (ok_calls (l := l) (B := B) (y := m_Mo_root) (pc := 9) hG cf_Mo_root_Mo_no rfl (List.mem_of_getElem? (i := 964) (by decide +kernel)) (List.mem_of_getElem? (i := 965) (by decide +kernel)) (List.mem_of_getElem? (i := 64) (by decide +kernel)) (zd_dr dc_Mo_root 5 rfl))) ?_
  refine zm_ac (om_pk nt_if_ne (ok_if_ne (l := l) (B := B) (y := m_Mo_root) (pc := 12) (zd_dr dc_Mo_root 6 rfl) (by decide))) ?_
  refine zm_ac (om_pk nt_iload (ok_iload (l := l) (B := B) (y := m_Mo_root) (pc := 15) (zd_dr dc_Mo_root 7 rfl))) ?_
  refine zm_ac (ok_mcalls (ok_calls (l := l) (B := B) (y := m_Mo_root) (pc := 17) hG cf_Mo_root_Mo_noMode rfl (List.mem_of_getElem? (i := 1035) (by decide +kernel)) (List.mem_of_getElem? (i := 1036) (by decide +kernel)) (List.mem_of_getElem? (i := 64) (by decide +kernel)) (zd_dr dc_Mo_root 8 rfl))) ?_
  refine zm_ac (om_pk nt_if_ne (ok_if_ne (l := l) (B := B) (y := m_Mo_root) (pc := 20) (zd_dr dc_Mo_root 9 rfl) (by decide))) ?_
  refine zm_ac (om_pk nt_iload (ok_iload_n (l := l) (B := B) (y := m_Mo_root) (pc := 23) (k := 3) rfl (zd_dr dc_Mo_root 10 rfl))) ?_
  refine zm_ac (om_pk nt_ci (ok_iconst (l := l) (B := B) (y := m_Mo_root) (pc := 24) (n := (1)) (zd_dr dc_Mo_root 11 rfl) rfl)) ?_
  refine zm_ac (om_pk nt_icmp_lt (ok_icmp_lt (l := l) (B := B) (y := m_Mo_root) (pc := 25) (zd_dr dc_Mo_root 12 rfl) (by decide))) ?_
  refine zm_ac (om_pk nt_iload (ok_iload_n (l := l) (B := B) (y := m_Mo_root) (pc := 28) (k := 3) rfl (zd_dr dc_Mo_root 13 rfl))) ?_
  refine zm_ac (om_pk nt_ci (ok_sipush (l := l) (B := B) (y := m_Mo_root) (pc := 29) (n := (1000)) (zd_dr dc_Mo_root 14 rfl) rfl)) ?_
  refine zm_ac (om_pk nt_icmp_le (ok_icmp_le (l := l) (B := B) (y := m_Mo_root) (pc := 32) (zd_dr dc_Mo_root 15 rfl) (by decide))) ?_
  refine zm_ac (om_pk nt_ci (ok_iconst (l := l) (B := B) (y := m_Mo_root) (pc := 35) (n := (1)) (zd_dr dc_Mo_root 16 rfl) rfl)) ?_
  refine zm_ac (om_pk nt_goto (ok_goto (l := l) (B := B) (y := m_Mo_root) (pc := 36) (zd_dr dc_Mo_root 17 rfl) (by decide))) ?_
  refine zm_ac (om_pk nt_aload (ok_aload_n (l := l) (B := B) (y := m_Mo_root) (pc := 39) (k := 0) rfl (zd_dr dc_Mo_root 18 rfl))) ?_
  refine zm_ac (ok_mgetf rfl (ok_getf (l := l) (B := B) (y := m_Mo_root) (pc := 40) hG (C := zR8) (T := zT8) (N := 21) (ci := 8) (k := 5) rfl zl8 (by decide) (List.mem_of_getElem? (i := 887) (by decide +kernel)) (zd_dr dc_Mo_root 19 rfl))) ?_
  refine zm_ac (om_pk nt_iload (ok_iload_n (l := l) (B := B) (y := m_Mo_root) (pc := 43) (k := 1) rfl (zd_dr dc_Mo_root 20 rfl))) ?_
  refine zm_ac (ok_mbaload (ok_baload (l := l) (B := B) (y := m_Mo_root) (pc := 44) hG (zd_dr dc_Mo_root 21 rfl))) ?_
  refine zm_ac (om_pk nt_if_eq (ok_if_eq (l := l) (B := B) (y := m_Mo_root) (pc := 45) (zd_dr dc_Mo_root 22 rfl) (by decide))) ?_
  refine zm_ac (om_pk nt_ci (ok_iconst (l := l) (B := B) (y := m_Mo_root) (pc := 48) (n := (2)) (zd_dr dc_Mo_root 23 rfl) rfl)) ?_
  refine zm_ac (om_pk nt_goto (ok_goto (l := l) (B := B) (y := m_Mo_root) (pc := 49) (zd_dr dc_Mo_root 24 rfl) (by decide))) ?_
  refine zm_ac (om_pk nt_ci (ok_iconst (l := l) (B := B) (y := m_Mo_root) (pc := 52) (n := (0)) (zd_dr dc_Mo_root 25 rfl) rfl)) ?_
  refine zm_ac (ok_mputi rfl (ok_putf (l := l) (B := B) (y := m_Mo_root) (pc := 53) hG (C := zR8) (T := zT8) (N := 21) (ci := 8) (k := 0) rfl zl8 zt8 (by decide) (List.mem_of_getElem? (i := 882) (by decide +kernel)) rfl (zd_dr dc_Mo_root 26 rfl))) ?_
  refine zm_ac (om_pk nt_aload (ok_aload_n (l := l) (B := B) (y := m_Mo_root) (pc := 56) (k := 0) rfl (zd_dr dc_Mo_root 27 rfl))) ?_
  refine zm_ac (ok_mgetf rfl (ok_getf (l := l) (B := B) (y := m_Mo_root) (pc := 57) hG (C := zR8) (T := zT8) (N := 21) (ci := 8) (k := 0) rfl zl8 (by decide) (List.mem_of_getElem? (i := 882) (by decide +kernel)) (zd_dr dc_Mo_root 28 rfl))) ?_
  refine zm_ac (om_pk nt_if_le (ok_if_le (l := l) (B := B) (y := m_Mo_root) (pc := 60) (zd_dr dc_Mo_root 29 rfl) (by decide))) ?_
  refine zm_ac (ok_mvret (ok_vret (l := l) (B := B) (y := m_Mo_root) (pc := 63) rfl (zd_dr dc_Mo_root 30 rfl))) ?_
  refine zm_ac (om_pk nt_aload (ok_aload_n (l := l) (B := B) (y := m_Mo_root) (pc := 64) (k := 0) rfl (zd_dr dc_Mo_root 31 rfl))) ?_
  refine zm_ac (om_pk nt_ci (ok_iconst (l := l) (B := B) (y := m_Mo_root) (pc := 65) (n := (2)) (zd_dr dc_Mo_root 32 rfl) rfl)) ?_
  refine zm_ac (ok_mputi rfl (ok_putf (l := l) (B := B) (y := m_Mo_root) (pc := 66) hG (C := zR8) (T := zT8) (N := 21) (ci := 8) (k := 20) rfl zl8 zt8 (by decide) (List.mem_of_getElem? (i := 902) (by decide +kernel)) rfl (zd_dr dc_Mo_root 33 rfl))) ?_
  refine zm_ac (om_pk nt_aload (ok_aload_n (l := l) (B := B) (y := m_Mo_root) (pc := 69) (k := 0) rfl (zd_dr dc_Mo_root 34 rfl))) ?_
  refine zm_ac (ok_mgetf rfl (ok_getf (l := l) (B := B) (y := m_Mo_root) (pc := 70) hG (C := zR8) (T := zT8) (N := 21) (ci := 8) (k := 6) rfl zl8 (by decide) (List.mem_of_getElem? (i := 888) (by decide +kernel)) (zd_dr dc_Mo_root 35 rfl))) ?_
  refine zm_ac (om_pk nt_iload (ok_iload_n (l := l) (B := B) (y := m_Mo_root) (pc := 73) (k := 1) rfl (zd_dr dc_Mo_root 36 rfl))) ?_
  refine zm_ac (ok_miaload (ok_iaload (l := l) (B := B) (y := m_Mo_root) (pc := 74) hG (zd_dr dc_Mo_root 37 rfl))) ?_
  refine zm_ac (om_pk nt_istore (ok_istore (l := l) (B := B) (y := m_Mo_root) (pc := 75) (zd_dr dc_Mo_root 38 rfl) (by decide))) ?_
  refine zm_ac (om_pk nt_iload (ok_iload (l := l) (B := B) (y := m_Mo_root) (pc := 77) (zd_dr dc_Mo_root 39 rfl))) ?_
  refine zm_ac (om_pk nt_if_lt (ok_if_lt (l := l) (B := B) (y := m_Mo_root) (pc := 79) (zd_dr dc_Mo_root 40 rfl) (by decide))) ?_
  refine zm_ac (om_pk nt_iload (ok_iload (l := l) (B := B) (y := m_Mo_root) (pc := 82) (zd_dr dc_Mo_root 41 rfl))) ?_
  refine zm_ac (om_pk nt_ci (ok_iconst (l := l) (B := B) (y := m_Mo_root) (pc := 84) (n := (2)) (zd_dr dc_Mo_root 42 rfl) rfl)) ?_
  refine zm_ac (om_pk nt_idiv (ok_idiv (l := l) (B := B) (y := m_Mo_root) (pc := 85) (zd_dr dc_Mo_root 43 rfl))) ?_
  refine zm_ac (om_pk nt_i2l (ok_i2l (l := l) (B := B) (y := m_Mo_root) (pc := 86) (zd_dr dc_Mo_root 44 rfl))) ?_
  refine zm_ac (om_pk nt_goto (ok_goto (l := l) (B := B) (y := m_Mo_root) (pc := 87) (zd_dr dc_Mo_root 45 rfl) (by decide))) ?_
  refine zm_ac (om_pk nt_ci (ok_iconst (l := l) (B := B) (y := m_Mo_root) (pc := 90) (n := (1)) (zd_dr dc_Mo_root 46 rfl) rfl)) ?_
  refine zm_ac (om_pk nt_iload (ok_iload (l := l) (B := B) (y := m_Mo_root) (pc := 91) (zd_dr dc_Mo_root 47 rfl))) ?_
  refine zm_ac (om_pk nt_isub (ok_isub (l := l) (B := B) (y := m_Mo_root) (pc := 93) (zd_dr dc_Mo_root 48 rfl))) ?_
  refine zm_ac (om_pk nt_ci (ok_iconst (l := l) (B := B) (y := m_Mo_root) (pc := 94) (n := (2)) (zd_dr dc_Mo_root 49 rfl) rfl)) ?_
  refine zm_ac (om_pk nt_idiv (ok_idiv (l := l) (B := B) (y := m_Mo_root) (pc := 95) (zd_dr dc_Mo_root 50 rfl))) ?_
  refine zm_ac (om_pk nt_ineg (ok_ineg (l := l) (B := B) (y := m_Mo_root) (pc := 96) (zd_dr dc_Mo_root 51 rfl))) ?_
  refine zm_ac (om_pk nt_i2l (ok_i2l (l := l) (B := B) (y := m_Mo_root) (pc := 97) (zd_dr dc_Mo_root 52 rfl))) ?_
  refine zm_ac (om_pk nt_lstore (ok_lstore (l := l) (B := B) (y := m_Mo_root) (pc := 98) (zd_dr dc_Mo_root 53 rfl) (by decide))) ?_
  refine zm_ac (om_pk nt_aload (ok_aload_n (l := l) (B := B) (y := m_Mo_root) (pc := 100) (k := 0) rfl (zd_dr dc_Mo_root 54 rfl))) ?_
  refine zm_ac (om_pk nt_iload (ok_iload_n (l := l) (B := B) (y := m_Mo_root) (pc := 101) (k := 1) rfl (zd_dr dc_Mo_root 55 rfl))) ?_
  refine zm_ac (ok_mcallv rfl (ok_callv (l := l) (B := B) (y := m_Mo_root) (pc := 102) hG (ci := 8) rfl cf_Mo_root_Mo_isZero rfl (List.mem_of_getElem? (i := 998) (by decide +kernel)) (List.mem_of_getElem? (i := 1000) (by decide +kernel)) (List.mem_of_getElem? (i := 31) (by decide +kernel)) (zd_dr dc_Mo_root 56 rfl))) ?_
  refine zm_ac (om_pk nt_if_eq (ok_if_eq (l := l) (B := B) (y := m_Mo_root) (pc := 105) (zd_dr dc_Mo_root 57 rfl) (by decide))) ?_
  refine zm_ac (om_pk nt_aload (ok_aload_n (l := l) (B := B) (y := m_Mo_root) (pc := 108) (k := 0) rfl (zd_dr dc_Mo_root 58 rfl))) ?_
  refine zm_ac (om_pk nt_iload (ok_iload_n (l := l) (B := B) (y := m_Mo_root) (pc := 109) (k := 1) rfl (zd_dr dc_Mo_root 59 rfl))) ?_
  refine zm_ac (ok_mcallv rfl (ok_callv (l := l) (B := B) (y := m_Mo_root) (pc := 110) hG (ci := 8) rfl cf_Mo_root_Mo_load rfl (List.mem_of_getElem? (i := 1019) (by decide +kernel)) (List.mem_of_getElem? (i := 1021) (by decide +kernel)) (List.mem_of_getElem? (i := 34) (by decide +kernel)) (zd_dr dc_Mo_root 60 rfl))) ?_
  refine zm_ac (om_pk nt_aload (ok_aload_n (l := l) (B := B) (y := m_Mo_root) (pc := 113) (k := 0) rfl (zd_dr dc_Mo_root 61 rfl))) ?_
  refine zm_ac (om_pk nt_iload (ok_iload_n (l := l) (B := B) (y := m_Mo_root) (pc := 114) (k := 3) rfl (zd_dr dc_Mo_root 62 rfl))) ?_
  refine zm_ac (om_pk nt_lload (ok_lload (l := l) (B := B) (y := m_Mo_root) (pc := 115) (zd_dr dc_Mo_root 63 rfl))) ?_
  refine zm_ac (om_pk nt_iload (ok_iload (l := l) (B := B) (y := m_Mo_root) (pc := 117) (zd_dr dc_Mo_root 64 rfl))) ?_
  refine zm_ac (om_pk nt_iload (ok_iload_n (l := l) (B := B) (y := m_Mo_root) (pc := 119) (k := 2) rfl (zd_dr dc_Mo_root 65 rfl))) ?_
  refine zm_ac (ok_mcallv rfl (ok_callv (l := l) (B := B) (y := m_Mo_root) (pc := 120) hG (ci := 8) rfl cf_Mo_root_Mo_toPrecision rfl (List.mem_of_getElem? (i := 1084) (by decide +kernel)) (List.mem_of_getElem? (i := 1086) (by decide +kernel)) (List.mem_of_getElem? (i := 46) (by decide +kernel)) (zd_dr dc_Mo_root 66 rfl))) ?_
  refine zm_ac (ok_mvret (ok_vret (l := l) (B := B) (y := m_Mo_root) (pc := 123) rfl (zd_dr dc_Mo_root 67 rfl))) ?_
  refine zm_ac (om_pk nt_aload (ok_aload_n (l := l) (B := B) (y := m_Mo_root) (pc := 124) (k := 0) rfl (zd_dr dc_Mo_root 68 rfl))) ?_
  refine zm_ac (om_pk nt_ci (ok_iconst (l := l) (B := B) (y := m_Mo_root) (pc := 125) (n := (0)) (zd_dr dc_Mo_root 69 rfl) rfl)) ?_
  refine zm_ac (ok_mputi rfl (ok_putf (l := l) (B := B) (y := m_Mo_root) (pc := 126) hG (C := zR8) (T := zT8) (N := 21) (ci := 8) (k := 13) rfl zl8 zt8 (by decide) (List.mem_of_getElem? (i := 895) (by decide +kernel)) rfl (zd_dr dc_Mo_root 70 rfl))) ?_
  refine zm_ac (om_pk nt_iload (ok_iload (l := l) (B := B) (y := m_Mo_root) (pc := 129) (zd_dr dc_Mo_root 71 rfl))) ?_
  refine zm_ac (om_pk nt_ci (ok_iconst (l := l) (B := B) (y := m_Mo_root) (pc := 131) (n := (2)) (zd_dr dc_Mo_root 72 rfl) rfl)) ?_
  refine zm_ac (om_pk nt_irem (ok_irem (l := l) (B := B) (y := m_Mo_root) (pc := 132) (zd_dr dc_Mo_root 73 rfl))) ?_
  refine zm_ac (om_pk nt_if_eq (ok_if_eq (l := l) (B := B) (y := m_Mo_root) (pc := 133) (zd_dr dc_Mo_root 74 rfl) (by decide))) ?_
  refine zm_ac (om_pk nt_ci (ok_iconst (l := l) (B := B) (y := m_Mo_root) (pc := 136) (n := (1)) (zd_dr dc_Mo_root 75 rfl) rfl)) ?_
  refine zm_ac (om_pk nt_goto (ok_goto (l := l) (B := B) (y := m_Mo_root) (pc := 137) (zd_dr dc_Mo_root 76 rfl) (by decide))) ?_
  refine zm_ac (om_pk nt_ci (ok_iconst (l := l) (B := B) (y := m_Mo_root) (pc := 140) (n := (0)) (zd_dr dc_Mo_root 77 rfl) rfl)) ?_
  refine zm_ac (om_pk nt_istore (ok_istore (l := l) (B := B) (y := m_Mo_root) (pc := 141) (zd_dr dc_Mo_root 78 rfl) (by decide))) ?_
  refine zm_ac (om_pk nt_aload (ok_aload_n (l := l) (B := B) (y := m_Mo_root) (pc := 143) (k := 0) rfl (zd_dr dc_Mo_root 79 rfl))) ?_
  refine zm_ac (ok_mgetf rfl (ok_getf (l := l) (B := B) (y := m_Mo_root) (pc := 144) hG (C := zR8) (T := zT8) (N := 21) (ci := 8) (k := 4) rfl zl8 (by decide) (List.mem_of_getElem? (i := 886) (by decide +kernel)) (zd_dr dc_Mo_root 80 rfl))) ?_
  refine zm_ac (om_pk nt_iload (ok_iload_n (l := l) (B := B) (y := m_Mo_root) (pc := 147) (k := 1) rfl (zd_dr dc_Mo_root 81 rfl))) ?_
  refine zm_ac (ok_miaload (ok_iaload (l := l) (B := B) (y := m_Mo_root) (pc := 148) hG (zd_dr dc_Mo_root 82 rfl))) ?_
  refine zm_ac (om_pk nt_iload (ok_iload (l := l) (B := B) (y := m_Mo_root) (pc := 149) (zd_dr dc_Mo_root 83 rfl))) ?_
  refine zm_ac (om_pk nt_if_eq (ok_if_eq (l := l) (B := B) (y := m_Mo_root) (pc := 151) (zd_dr dc_Mo_root 84 rfl) (by decide))) ?_
  refine zm_ac (om_pk nt_ci (ok_iconst (l := l) (B := B) (y := m_Mo_root) (pc := 154) (n := (1)) (zd_dr dc_Mo_root 85 rfl) rfl)) ?_
  refine zm_ac (om_pk nt_goto (ok_goto (l := l) (B := B) (y := m_Mo_root) (pc := 155) (zd_dr dc_Mo_root 86 rfl) (by decide))) ?_
  refine zm_ac (om_pk nt_ci (ok_iconst (l := l) (B := B) (y := m_Mo_root) (pc := 158) (n := (0)) (zd_dr dc_Mo_root 87 rfl) rfl)) ?_
  refine zm_ac (om_pk nt_iadd (ok_iadd (l := l) (B := B) (y := m_Mo_root) (pc := 159) (zd_dr dc_Mo_root 88 rfl))) ?_
  refine zm_ac (om_pk nt_ci (ok_iconst (l := l) (B := B) (y := m_Mo_root) (pc := 160) (n := (2)) (zd_dr dc_Mo_root 89 rfl) rfl)) ?_
  refine zm_ac (om_pk nt_irem (ok_irem (l := l) (B := B) (y := m_Mo_root) (pc := 161) (zd_dr dc_Mo_root 90 rfl))) ?_
  refine zm_ac (om_pk nt_ci (ok_iconst (l := l) (B := B) (y := m_Mo_root) (pc := 162) (n := (1)) (zd_dr dc_Mo_root 91 rfl) rfl)) ?_
  refine zm_ac (om_pk nt_icmp_ne (ok_icmp_ne (l := l) (B := B) (y := m_Mo_root) (pc := 163) (zd_dr dc_Mo_root 92 rfl) (by decide))) ?_
  refine zm_ac (om_pk nt_aload (ok_aload_n (l := l) (B := B) (y := m_Mo_root) (pc := 166) (k := 0) rfl (zd_dr dc_Mo_root 93 rfl))) ?_
  refine zm_ac (ok_mgetf rfl (ok_getf (l := l) (B := B) (y := m_Mo_root) (pc := 167) hG (C := zR8) (T := zT8) (N := 21) (ci := 8) (k := 12) rfl zl8 (by decide) (List.mem_of_getElem? (i := 894) (by decide +kernel)) (zd_dr dc_Mo_root 94 rfl))) ?_
  refine zm_ac (om_pk nt_ci (ok_iconst (l := l) (B := B) (y := m_Mo_root) (pc := 170) (n := (0)) (zd_dr dc_Mo_root 95 rfl) rfl)) ?_
  refine zm_ac (om_pk nt_ci (ok_iconst (l := l) (B := B) (y := m_Mo_root) (pc := 171) (n := (0)) (zd_dr dc_Mo_root 96 rfl) rfl)) ?_
  refine zm_ac (ok_miastore (ok_iastore (l := l) (B := B) (y := m_Mo_root) (pc := 172) hG (zd_dr dc_Mo_root 97 rfl))) ?_
  refine zm_ac (om_pk nt_aload (ok_aload_n (l := l) (B := B) (y := m_Mo_root) (pc := 173) (k := 0) rfl (zd_dr dc_Mo_root 98 rfl))) ?_
  refine zm_ac (om_pk nt_ci (ok_iconst (l := l) (B := B) (y := m_Mo_root) (pc := 174) (n := (1)) (zd_dr dc_Mo_root 99 rfl) rfl)) ?_
  refine zm_ac (ok_mputi rfl (ok_putf (l := l) (B := B) (y := m_Mo_root) (pc := 175) hG (C := zR8) (T := zT8) (N := 21) (ci := 8) (k := 13) rfl zl8 zt8 (by decide) (List.mem_of_getElem? (i := 895) (by decide +kernel)) rfl (zd_dr dc_Mo_root 100 rfl))) ?_
  refine zm_ac (om_pk nt_ci (ok_iconst (l := l) (B := B) (y := m_Mo_root) (pc := 178) (n := (0)) (zd_dr dc_Mo_root 101 rfl) rfl)) ?_
  refine zm_ac (om_pk nt_istore (ok_istore (l := l) (B := B) (y := m_Mo_root) (pc := 179) (zd_dr dc_Mo_root 102 rfl) (by decide))) ?_
  refine zm_ac (om_pk nt_iload (ok_iload (l := l) (B := B) (y := m_Mo_root) (pc := 181) (zd_dr dc_Mo_root 103 rfl))) ?_
  refine zm_ac (om_pk nt_aload (ok_aload_n (l := l) (B := B) (y := m_Mo_root) (pc := 183) (k := 0) rfl (zd_dr dc_Mo_root 104 rfl))) ?_
  refine zm_ac (ok_mgetf rfl (ok_getf (l := l) (B := B) (y := m_Mo_root) (pc := 184) hG (C := zR8) (T := zT8) (N := 21) (ci := 8) (k := 4) rfl zl8 (by decide) (List.mem_of_getElem? (i := 886) (by decide +kernel)) (zd_dr dc_Mo_root 105 rfl))) ?_
  refine zm_ac (om_pk nt_iload (ok_iload_n (l := l) (B := B) (y := m_Mo_root) (pc := 187) (k := 1) rfl (zd_dr dc_Mo_root 106 rfl))) ?_
  refine zm_ac (ok_miaload (ok_iaload (l := l) (B := B) (y := m_Mo_root) (pc := 188) hG (zd_dr dc_Mo_root 107 rfl))) ?_
  refine zm_ac (om_pk nt_icmp_ge (ok_icmp_ge (l := l) (B := B) (y := m_Mo_root) (pc := 189) (zd_dr dc_Mo_root 108 rfl) (by decide))) ?_
  refine zm_ac (om_pk nt_aload (ok_aload_n (l := l) (B := B) (y := m_Mo_root) (pc := 192) (k := 0) rfl (zd_dr dc_Mo_root 109 rfl))) ?_
  refine zm_ac (ok_mgetf rfl (ok_getf (l := l) (B := B) (y := m_Mo_root) (pc := 193) hG (C := zR8) (T := zT8) (N := 21) (ci := 8) (k := 12) rfl zl8 (by decide) (List.mem_of_getElem? (i := 894) (by decide +kernel)) (zd_dr dc_Mo_root 110 rfl))) ?_
  refine zm_ac (om_pk nt_aload (ok_aload_n (l := l) (B := B) (y := m_Mo_root) (pc := 196) (k := 0) rfl (zd_dr dc_Mo_root 111 rfl))) ?_
  refine zm_ac (ok_mgetf rfl (ok_getf (l := l) (B := B) (y := m_Mo_root) (pc := 197) hG (C := zR8) (T := zT8) (N := 21) (ci := 8) (k := 13) rfl zl8 (by decide) (List.mem_of_getElem? (i := 895) (by decide +kernel)) (zd_dr dc_Mo_root 112 rfl))) ?_
  refine zm_ac (om_pk nt_aload (ok_aload_n (l := l) (B := B) (y := m_Mo_root) (pc := 200) (k := 0) rfl (zd_dr dc_Mo_root 113 rfl))) ?_
  refine zm_ac (ok_mgetf rfl (ok_getf (l := l) (B := B) (y := m_Mo_root) (pc := 201) hG (C := zR8) (T := zT8) (N := 21) (ci := 8) (k := 3) rfl zl8 (by decide) (List.mem_of_getElem? (i := 885) (by decide +kernel)) (zd_dr dc_Mo_root 114 rfl))) ?_
  refine zm_ac (om_pk nt_ci (ok_sipush (l := l) (B := B) (y := m_Mo_root) (pc := 204) (n := (1000)) (zd_dr dc_Mo_root 115 rfl) rfl)) ?_
  refine zm_ac (om_pk nt_iload (ok_iload_n (l := l) (B := B) (y := m_Mo_root) (pc := 207) (k := 1) rfl (zd_dr dc_Mo_root 116 rfl))) ?_
  refine zm_ac (om_pk nt_imul (ok_imul (l := l) (B := B) (y := m_Mo_root) (pc := 208) (zd_dr dc_Mo_root 117 rfl))) ?_
  refine zm_ac (om_pk nt_iload (ok_iload (l := l) (B := B) (y := m_Mo_root) (pc := 209) (zd_dr dc_Mo_root 118 rfl))) ?_
  refine zm_ac (om_pk nt_iadd (ok_iadd (l := l) (B := B) (y := m_Mo_root) (pc := 211) (zd_dr dc_Mo_root 119 rfl))) ?_
  refine zm_ac (ok_miaload (ok_iaload (l := l) (B := B) (y := m_Mo_root) (pc := 212) hG (zd_dr dc_Mo_root 120 rfl))) ?_
  refine zm_ac (ok_miastore (ok_iastore (l := l) (B := B) (y := m_Mo_root) (pc := 213) hG (zd_dr dc_Mo_root 121 rfl))) ?_
  refine zm_ac (om_pk nt_aload (ok_aload_n (l := l) (B := B) (y := m_Mo_root) (pc := 214) (k := 0) rfl (zd_dr dc_Mo_root 122 rfl))) ?_
  refine zm_ac (om_pk nt_dup (ok_dup (l := l) (B := B) (y := m_Mo_root) (pc := 215) (zd_dr dc_Mo_root 123 rfl))) ?_
  refine zm_ac (ok_mgetf rfl (ok_getf (l := l) (B := B) (y := m_Mo_root) (pc := 216) hG (C := zR8) (T := zT8) (N := 21) (ci := 8) (k := 13) rfl zl8 (by decide) (List.mem_of_getElem? (i := 895) (by decide +kernel)) (zd_dr dc_Mo_root 124 rfl))) ?_
  refine zm_ac (om_pk nt_ci (ok_iconst (l := l) (B := B) (y := m_Mo_root) (pc := 219) (n := (1)) (zd_dr dc_Mo_root 125 rfl) rfl)) ?_
  refine zm_ac (om_pk nt_iadd (ok_iadd (l := l) (B := B) (y := m_Mo_root) (pc := 220) (zd_dr dc_Mo_root 126 rfl))) ?_
  refine zm_ac (ok_mputi rfl (ok_putf (l := l) (B := B) (y := m_Mo_root) (pc := 221) hG (C := zR8) (T := zT8) (N := 21) (ci := 8) (k := 13) rfl zl8 zt8 (by decide) (List.mem_of_getElem? (i := 895) (by decide +kernel)) rfl (zd_dr dc_Mo_root 127 rfl))) ?_
  refine zm_ac (om_pk nt_iinc (ok_iinc (l := l) (B := B) (y := m_Mo_root) (pc := 224) (zd_dr dc_Mo_root 128 rfl) (by decide) rfl)) ?_
  refine zm_ac (om_pk nt_goto (ok_goto (l := l) (B := B) (y := m_Mo_root) (pc := 227) (zd_dr dc_Mo_root 129 rfl) (by decide))) ?_
  refine zm_ac (om_pk nt_iload (ok_iload (l := l) (B := B) (y := m_Mo_root) (pc := 230) (zd_dr dc_Mo_root 130 rfl))) ?_
  refine zm_ac (om_pk nt_if_eq (ok_if_eq (l := l) (B := B) (y := m_Mo_root) (pc := 232) (zd_dr dc_Mo_root 131 rfl) (by decide))) ?_
  refine zm_ac (om_pk nt_aload (ok_aload_n (l := l) (B := B) (y := m_Mo_root) (pc := 235) (k := 0) rfl (zd_dr dc_Mo_root 132 rfl))) ?_
  refine zm_ac (ok_mgetf rfl (ok_getf (l := l) (B := B) (y := m_Mo_root) (pc := 236) hG (C := zR8) (T := zT8) (N := 21) (ci := 8) (k := 12) rfl zl8 (by decide) (List.mem_of_getElem? (i := 894) (by decide +kernel)) (zd_dr dc_Mo_root 133 rfl))) ?_
  refine zm_ac (om_pk nt_aload (ok_aload_n (l := l) (B := B) (y := m_Mo_root) (pc := 239) (k := 0) rfl (zd_dr dc_Mo_root 134 rfl))) ?_
  refine zm_ac (ok_mgetf rfl (ok_getf (l := l) (B := B) (y := m_Mo_root) (pc := 240) hG (C := zR8) (T := zT8) (N := 21) (ci := 8) (k := 13) rfl zl8 (by decide) (List.mem_of_getElem? (i := 895) (by decide +kernel)) (zd_dr dc_Mo_root 135 rfl))) ?_
  refine zm_ac (om_pk nt_ci (ok_iconst (l := l) (B := B) (y := m_Mo_root) (pc := 243) (n := (0)) (zd_dr dc_Mo_root 136 rfl) rfl)) ?_
  refine zm_ac (ok_miastore (ok_iastore (l := l) (B := B) (y := m_Mo_root) (pc := 244) hG (zd_dr dc_Mo_root 137 rfl))) ?_
  refine zm_ac (om_pk nt_aload (ok_aload_n (l := l) (B := B) (y := m_Mo_root) (pc := 245) (k := 0) rfl (zd_dr dc_Mo_root 138 rfl))) ?_
  refine zm_ac (om_pk nt_dup (ok_dup (l := l) (B := B) (y := m_Mo_root) (pc := 246) (zd_dr dc_Mo_root 139 rfl))) ?_
  refine zm_ac (ok_mgetf rfl (ok_getf (l := l) (B := B) (y := m_Mo_root) (pc := 247) hG (C := zR8) (T := zT8) (N := 21) (ci := 8) (k := 13) rfl zl8 (by decide) (List.mem_of_getElem? (i := 895) (by decide +kernel)) (zd_dr dc_Mo_root 140 rfl))) ?_
  refine zm_ac (om_pk nt_ci (ok_iconst (l := l) (B := B) (y := m_Mo_root) (pc := 250) (n := (1)) (zd_dr dc_Mo_root 141 rfl) rfl)) ?_
  refine zm_ac (om_pk nt_iadd (ok_iadd (l := l) (B := B) (y := m_Mo_root) (pc := 251) (zd_dr dc_Mo_root 142 rfl))) ?_
  refine zm_ac (ok_mputi rfl (ok_putf (l := l) (B := B) (y := m_Mo_root) (pc := 252) hG (C := zR8) (T := zT8) (N := 21) (ci := 8) (k := 13) rfl zl8 zt8 (by decide) (List.mem_of_getElem? (i := 895) (by decide +kernel)) rfl (zd_dr dc_Mo_root 143 rfl))) ?_
  refine zm_ac (om_pk nt_aload (ok_aload_n (l := l) (B := B) (y := m_Mo_root) (pc := 255) (k := 0) rfl (zd_dr dc_Mo_root 144 rfl))) ?_
  refine zm_ac (om_pk nt_ci (ok_iconst (l := l) (B := B) (y := m_Mo_root) (pc := 256) (n := (0)) (zd_dr dc_Mo_root 145 rfl) rfl)) ?_
  refine zm_ac (ok_mputi rfl (ok_putf (l := l) (B := B) (y := m_Mo_root) (pc := 257) hG (C := zR8) (T := zT8) (N := 21) (ci := 8) (k := 8) rfl zl8 zt8 (by decide) (List.mem_of_getElem? (i := 890) (by decide +kernel)) rfl (zd_dr dc_Mo_root 146 rfl))) ?_
  refine zm_ac (om_pk nt_aload (ok_aload_n (l := l) (B := B) (y := m_Mo_root) (pc := 260) (k := 0) rfl (zd_dr dc_Mo_root 147 rfl))) ?_
  refine zm_ac (om_pk nt_ci (ok_iconst (l := l) (B := B) (y := m_Mo_root) (pc := 261) (n := (0)) (zd_dr dc_Mo_root 148 rfl) rfl)) ?_
  refine zm_ac (ok_mputi rfl (ok_putf (l := l) (B := B) (y := m_Mo_root) (pc := 262) hG (C := zR8) (T := zT8) (N := 21) (ci := 8) (k := 17) rfl zl8 zt8 (by decide) (List.mem_of_getElem? (i := 899) (by decide +kernel)) rfl (zd_dr dc_Mo_root 149 rfl))) ?_
  refine zm_ac (om_pk nt_ci (ok_iconst (l := l) (B := B) (y := m_Mo_root) (pc := 265) (n := (0)) (zd_dr dc_Mo_root 150 rfl) rfl)) ?_
  refine zm_ac (om_pk nt_istore (ok_istore (l := l) (B := B) (y := m_Mo_root) (pc := 266) (zd_dr dc_Mo_root 151 rfl) (by decide))) ?_
  refine zm_ac (om_pk nt_iload (ok_iload (l := l) (B := B) (y := m_Mo_root) (pc := 268) (zd_dr dc_Mo_root 152 rfl))) ?_
  refine zm_ac (om_pk nt_aload (ok_aload_n (l := l) (B := B) (y := m_Mo_root) (pc := 270) (k := 0) rfl (zd_dr dc_Mo_root 153 rfl))) ?_
  refine zm_ac (ok_mgetf rfl (ok_getf (l := l) (B := B) (y := m_Mo_root) (pc := 271) hG (C := zR8) (T := zT8) (N := 21) (ci := 8) (k := 13) rfl zl8 (by decide) (List.mem_of_getElem? (i := 895) (by decide +kernel)) (zd_dr dc_Mo_root 154 rfl))) ?_
  refine zm_ac (om_pk nt_icmp_ge (ok_icmp_ge (l := l) (B := B) (y := m_Mo_root) (pc := 274) (zd_dr dc_Mo_root 155 rfl) (by decide))) ?_
  refine zm_ac (om_pk nt_aload (ok_aload_n (l := l) (B := B) (y := m_Mo_root) (pc := 277) (k := 0) rfl (zd_dr dc_Mo_root 156 rfl))) ?_
  refine zm_ac (om_pk nt_aload (ok_aload_n (l := l) (B := B) (y := m_Mo_root) (pc := 278) (k := 0) rfl (zd_dr dc_Mo_root 157 rfl))) ?_
  refine zm_ac (ok_mgetf rfl (ok_getf (l := l) (B := B) (y := m_Mo_root) (pc := 279) hG (C := zR8) (T := zT8) (N := 21) (ci := 8) (k := 12) rfl zl8 (by decide) (List.mem_of_getElem? (i := 894) (by decide +kernel)) (zd_dr dc_Mo_root 158 rfl))) ?_
  refine zm_ac (om_pk nt_iload (ok_iload (l := l) (B := B) (y := m_Mo_root) (pc := 282) (zd_dr dc_Mo_root 159 rfl))) ?_
  refine zm_ac (ok_miaload (ok_iaload (l := l) (B := B) (y := m_Mo_root) (pc := 284) hG (zd_dr dc_Mo_root 160 rfl))) ?_
  refine zm_ac (om_pk nt_aload (ok_aload_n (l := l) (B := B) (y := m_Mo_root) (pc := 285) (k := 0) rfl (zd_dr dc_Mo_root 161 rfl))) ?_
  refine zm_ac (ok_mgetf rfl (ok_getf (l := l) (B := B) (y := m_Mo_root) (pc := 286) hG (C := zR8) (T := zT8) (N := 21) (ci := 8) (k := 12) rfl zl8 (by decide) (List.mem_of_getElem? (i := 894) (by decide +kernel)) (zd_dr dc_Mo_root 162 rfl))) ?_
  refine zm_ac (om_pk nt_iload (ok_iload (l := l) (B := B) (y := m_Mo_root) (pc := 289) (zd_dr dc_Mo_root 163 rfl))) ?_
  refine zm_ac (om_pk nt_ci (ok_iconst (l := l) (B := B) (y := m_Mo_root) (pc := 291) (n := (1)) (zd_dr dc_Mo_root 164 rfl) rfl)) ?_
  refine zm_ac (om_pk nt_iadd (ok_iadd (l := l) (B := B) (y := m_Mo_root) (pc := 292) (zd_dr dc_Mo_root 165 rfl))) ?_
  refine zm_ac (ok_miaload (ok_iaload (l := l) (B := B) (y := m_Mo_root) (pc := 293) hG (zd_dr dc_Mo_root 166 rfl))) ?_
  refine zm_ac (ok_mcallv rfl (ok_callv (l := l) (B := B) (y := m_Mo_root) (pc := 294) hG (ci := 8) rfl cf_Mo_root_Mo_nextRoot rfl (List.mem_of_getElem? (i := 1108) (by decide +kernel)) (List.mem_of_getElem? (i := 1110) (by decide +kernel)) (List.mem_of_getElem? (i := 50) (by decide +kernel)) (zd_dr dc_Mo_root 167 rfl))) ?_
  refine zm_ac (om_pk nt_iinc (ok_iinc (l := l) (B := B) (y := m_Mo_root) (pc := 297) (zd_dr dc_Mo_root 168 rfl) (by decide) rfl)) ?_
  refine zm_ac (om_pk nt_goto (ok_goto (l := l) (B := B) (y := m_Mo_root) (pc := 300) (zd_dr dc_Mo_root 169 rfl) (by decide))) ?_
  refine zm_ac (om_pk nt_aload (ok_aload_n (l := l) (B := B) (y := m_Mo_root) (pc := 303) (k := 0) rfl (zd_dr dc_Mo_root 170 rfl))) ?_
  refine zm_ac (om_pk nt_iload (ok_iload (l := l) (B := B) (y := m_Mo_root) (pc := 304) (zd_dr dc_Mo_root 171 rfl))) ?_
  refine zm_ac (om_pk nt_if_eq (ok_if_eq (l := l) (B := B) (y := m_Mo_root) (pc := 306) (zd_dr dc_Mo_root 172 rfl) (by decide))) ?_
  refine zm_ac (om_pk nt_iload (ok_iload (l := l) (B := B) (y := m_Mo_root) (pc := 309) (zd_dr dc_Mo_root 173 rfl))) ?_
  refine zm_ac (om_pk nt_ci (ok_iconst (l := l) (B := B) (y := m_Mo_root) (pc := 311) (n := (1)) (zd_dr dc_Mo_root 174 rfl) rfl)) ?_
  refine zm_ac (om_pk nt_iadd (ok_iadd (l := l) (B := B) (y := m_Mo_root) (pc := 312) (zd_dr dc_Mo_root 175 rfl))) ?_
  refine zm_ac (om_pk nt_ci (ok_iconst (l := l) (B := B) (y := m_Mo_root) (pc := 313) (n := (2)) (zd_dr dc_Mo_root 176 rfl) rfl)) ?_
  refine zm_ac (om_pk nt_idiv (ok_idiv (l := l) (B := B) (y := m_Mo_root) (pc := 314) (zd_dr dc_Mo_root 177 rfl))) ?_
  refine zm_ac (om_pk nt_i2l (ok_i2l (l := l) (B := B) (y := m_Mo_root) (pc := 315) (zd_dr dc_Mo_root 178 rfl))) ?_
  refine zm_ac (om_pk nt_goto (ok_goto (l := l) (B := B) (y := m_Mo_root) (pc := 316) (zd_dr dc_Mo_root 179 rfl) (by decide))) ?_
  refine zm_ac (om_pk nt_iload (ok_iload (l := l) (B := B) (y := m_Mo_root) (pc := 319) (zd_dr dc_Mo_root 180 rfl))) ?_
  refine zm_ac (om_pk nt_ci (ok_iconst (l := l) (B := B) (y := m_Mo_root) (pc := 321) (n := (2)) (zd_dr dc_Mo_root 181 rfl) rfl)) ?_
  refine zm_ac (om_pk nt_idiv (ok_idiv (l := l) (B := B) (y := m_Mo_root) (pc := 322) (zd_dr dc_Mo_root 182 rfl))) ?_
  refine zm_ac (om_pk nt_i2l (ok_i2l (l := l) (B := B) (y := m_Mo_root) (pc := 323) (zd_dr dc_Mo_root 183 rfl))) ?_
  refine zm_ac (ok_mputl rfl (ok_putf (l := l) (B := B) (y := m_Mo_root) (pc := 324) hG (C := zR8) (T := zT8) (N := 21) (ci := 8) (k := 9) rfl zl8 zt8 (by decide) (List.mem_of_getElem? (i := 891) (by decide +kernel)) rfl (zd_dr dc_Mo_root 184 rfl))) ?_
  refine zm_ac (om_pk nt_ci (ok_iconst (l := l) (B := B) (y := m_Mo_root) (pc := 327) (n := (1)) (zd_dr dc_Mo_root 185 rfl) rfl)) ?_
  refine zm_ac (om_pk nt_istore (ok_istore (l := l) (B := B) (y := m_Mo_root) (pc := 328) (zd_dr dc_Mo_root 186 rfl) (by decide))) ?_
  refine zm_ac (om_pk nt_iload (ok_iload (l := l) (B := B) (y := m_Mo_root) (pc := 330) (zd_dr dc_Mo_root 187 rfl))) ?_
  refine zm_ac (om_pk nt_if_eq (ok_if_eq (l := l) (B := B) (y := m_Mo_root) (pc := 332) (zd_dr dc_Mo_root 188 rfl) (by decide))) ?_
  refine zm_ac (om_pk nt_aload (ok_aload_n (l := l) (B := B) (y := m_Mo_root) (pc := 335) (k := 0) rfl (zd_dr dc_Mo_root 189 rfl))) ?_
  refine zm_ac (ok_mgetf rfl (ok_getf (l := l) (B := B) (y := m_Mo_root) (pc := 336) hG (C := zR8) (T := zT8) (N := 21) (ci := 8) (k := 8) rfl zl8 (by decide) (List.mem_of_getElem? (i := 890) (by decide +kernel)) (zd_dr dc_Mo_root 190 rfl))) ?_
  refine zm_ac (om_pk nt_iload (ok_iload_n (l := l) (B := B) (y := m_Mo_root) (pc := 339) (k := 3) rfl (zd_dr dc_Mo_root 191 rfl))) ?_
  refine zm_ac (om_pk nt_icmp_gt (ok_icmp_gt (l := l) (B := B) (y := m_Mo_root) (pc := 340) (zd_dr dc_Mo_root 192 rfl) (by decide))) ?_
  refine zm_ac (om_pk nt_ci (ok_iconst (l := l) (B := B) (y := m_Mo_root) (pc := 343) (n := (0)) (zd_dr dc_Mo_root 193 rfl) rfl)) ?_
  refine zm_ac (om_pk nt_istore (ok_istore (l := l) (B := B) (y := m_Mo_root) (pc := 344) (zd_dr dc_Mo_root 194 rfl) (by decide))) ?_
  refine zm_ac (om_pk nt_ci (ok_iconst (l := l) (B := B) (y := m_Mo_root) (pc := 346) (n := (0)) (zd_dr dc_Mo_root 195 rfl) rfl)) ?_
  refine zm_ac (om_pk nt_istore (ok_istore (l := l) (B := B) (y := m_Mo_root) (pc := 347) (zd_dr dc_Mo_root 196 rfl) (by decide))) ?_
  refine zm_ac (om_pk nt_iload (ok_iload (l := l) (B := B) (y := m_Mo_root) (pc := 349) (zd_dr dc_Mo_root 197 rfl))) ?_
  refine zm_ac (om_pk nt_aload (ok_aload_n (l := l) (B := B) (y := m_Mo_root) (pc := 351) (k := 0) rfl (zd_dr dc_Mo_root 198 rfl))) ?_
  refine zm_ac (ok_mgetf rfl (ok_getf (l := l) (B := B) (y := m_Mo_root) (pc := 352) hG (C := zR8) (T := zT8) (N := 21) (ci := 8) (k := 17) rfl zl8 (by decide) (List.mem_of_getElem? (i := 899) (by decide +kernel)) (zd_dr dc_Mo_root 199 rfl))) ?_
  refine zm_ac (om_pk nt_icmp_ge (ok_icmp_ge (l := l) (B := B) (y := m_Mo_root) (pc := 355) (zd_dr dc_Mo_root 200 rfl) (by decide))) ?_
  refine zm_ac (om_pk nt_iload (ok_iload (l := l) (B := B) (y := m_Mo_root) (pc := 358) (zd_dr dc_Mo_root 201 rfl))) ?_
  refine zm_ac (om_pk nt_if_ne (ok_if_ne (l := l) (B := B) (y := m_Mo_root) (pc := 360) (zd_dr dc_Mo_root 202 rfl) (by decide))) ?_
  refine zm_ac (om_pk nt_aload (ok_aload_n (l := l) (B := B) (y := m_Mo_root) (pc := 363) (k := 0) rfl (zd_dr dc_Mo_root 203 rfl))) ?_
  refine zm_ac (ok_mgetf rfl (ok_getf (l := l) (B := B) (y := m_Mo_root) (pc := 364) hG (C := zR8) (T := zT8) (N := 21) (ci := 8) (k := 16) rfl zl8 (by decide) (List.mem_of_getElem? (i := 898) (by decide +kernel)) (zd_dr dc_Mo_root 204 rfl))) ?_
  refine zm_ac (om_pk nt_iload (ok_iload (l := l) (B := B) (y := m_Mo_root) (pc := 367) (zd_dr dc_Mo_root 205 rfl))) ?_
  refine zm_ac (ok_miaload (ok_iaload (l := l) (B := B) (y := m_Mo_root) (pc := 369) hG (zd_dr dc_Mo_root 206 rfl))) ?_
  refine zm_ac (om_pk nt_if_eq (ok_if_eq (l := l) (B := B) (y := m_Mo_root) (pc := 370) (zd_dr dc_Mo_root 207 rfl) (by decide))) ?_
  refine zm_ac (om_pk nt_ci (ok_iconst (l := l) (B := B) (y := m_Mo_root) (pc := 373) (n := (1)) (zd_dr dc_Mo_root 208 rfl) rfl)) ?_
  refine zm_ac (om_pk nt_goto (ok_goto (l := l) (B := B) (y := m_Mo_root) (pc := 374) (zd_dr dc_Mo_root 209 rfl) (by decide))) ?_
  refine zm_ac (om_pk nt_ci (ok_iconst (l := l) (B := B) (y := m_Mo_root) (pc := 377) (n := (0)) (zd_dr dc_Mo_root 210 rfl) rfl)) ?_
  refine zm_ac (om_pk nt_istore (ok_istore (l := l) (B := B) (y := m_Mo_root) (pc := 378) (zd_dr dc_Mo_root 211 rfl) (by decide))) ?_
  refine zm_ac (om_pk nt_iinc (ok_iinc (l := l) (B := B) (y := m_Mo_root) (pc := 380) (zd_dr dc_Mo_root 212 rfl) (by decide) rfl)) ?_
  refine zm_ac (om_pk nt_goto (ok_goto (l := l) (B := B) (y := m_Mo_root) (pc := 383) (zd_dr dc_Mo_root 213 rfl) (by decide))) ?_
  refine zm_ac (om_pk nt_iload (ok_iload (l := l) (B := B) (y := m_Mo_root) (pc := 386) (zd_dr dc_Mo_root 214 rfl))) ?_
  refine zm_ac (om_pk nt_if_eq (ok_if_eq (l := l) (B := B) (y := m_Mo_root) (pc := 388) (zd_dr dc_Mo_root 215 rfl) (by decide))) ?_
  refine zm_ac (om_pk nt_aload (ok_aload_n (l := l) (B := B) (y := m_Mo_root) (pc := 391) (k := 0) rfl (zd_dr dc_Mo_root 216 rfl))) ?_
  refine zm_ac (om_pk nt_ci (ok_iconst (l := l) (B := B) (y := m_Mo_root) (pc := 392) (n := (0)) (zd_dr dc_Mo_root 217 rfl) rfl)) ?_
  refine zm_ac (om_pk nt_ci (ok_iconst (l := l) (B := B) (y := m_Mo_root) (pc := 393) (n := (0)) (zd_dr dc_Mo_root 218 rfl) rfl)) ?_
  refine zm_ac (ok_mcallv rfl (ok_callv (l := l) (B := B) (y := m_Mo_root) (pc := 394) hG (ci := 8) rfl cf_Mo_root_Mo_nextRoot rfl (List.mem_of_getElem? (i := 1108) (by decide +kernel)) (List.mem_of_getElem? (i := 1110) (by decide +kernel)) (List.mem_of_getElem? (i := 50) (by decide +kernel)) (zd_dr dc_Mo_root 219 rfl))) ?_
  refine zm_ac (om_pk nt_aload (ok_aload_n (l := l) (B := B) (y := m_Mo_root) (pc := 397) (k := 0) rfl (zd_dr dc_Mo_root 220 rfl))) ?_
  refine zm_ac (om_pk nt_dup (ok_dup (l := l) (B := B) (y := m_Mo_root) (pc := 398) (zd_dr dc_Mo_root 221 rfl))) ?_
  refine zm_ac (ok_mgetf rfl (ok_getf (l := l) (B := B) (y := m_Mo_root) (pc := 399) hG (C := zR8) (T := zT8) (N := 21) (ci := 8) (k := 9) rfl zl8 (by decide) (List.mem_of_getElem? (i := 891) (by decide +kernel)) (zd_dr dc_Mo_root 222 rfl))) ?_
  refine zm_ac (om_pk nt_cl (ok_lconst (l := l) (B := B) (y := m_Mo_root) (pc := 402) (n := 1) (zd_dr dc_Mo_root 223 rfl) rfl)) ?_
  refine zm_ac (om_pk nt_ladd (ok_ladd (l := l) (B := B) (y := m_Mo_root) (pc := 403) (zd_dr dc_Mo_root 224 rfl))) ?_
  refine zm_ac (ok_mputl rfl (ok_putf (l := l) (B := B) (y := m_Mo_root) (pc := 404) hG (C := zR8) (T := zT8) (N := 21) (ci := 8) (k := 9) rfl zl8 zt8 (by decide) (List.mem_of_getElem? (i := 891) (by decide +kernel)) rfl (zd_dr dc_Mo_root 225 rfl))) ?_
  refine zm_ac (om_pk nt_goto (ok_goto (l := l) (B := B) (y := m_Mo_root) (pc := 407) (zd_dr dc_Mo_root 226 rfl) (by decide))) ?_
  refine zm_ac (om_pk nt_aload (ok_aload_n (l := l) (B := B) (y := m_Mo_root) (pc := 410) (k := 0) rfl (zd_dr dc_Mo_root 227 rfl))) ?_
  refine zm_ac (om_pk nt_ci (ok_iconst (l := l) (B := B) (y := m_Mo_root) (pc := 411) (n := (0)) (zd_dr dc_Mo_root 228 rfl) rfl)) ?_
  refine zm_ac (ok_mputb rfl (ok_putf (l := l) (B := B) (y := m_Mo_root) (pc := 412) hG (C := zR8) (T := zT8) (N := 21) (ci := 8) (k := 10) rfl zl8 zt8 (by decide) (List.mem_of_getElem? (i := 892) (by decide +kernel)) rfl (zd_dr dc_Mo_root 229 rfl))) ?_
  refine zm_ac (om_pk nt_ci (ok_iconst (l := l) (B := B) (y := m_Mo_root) (pc := 415) (n := (0)) (zd_dr dc_Mo_root 230 rfl) rfl)) ?_
  refine zm_ac (om_pk nt_istore (ok_istore (l := l) (B := B) (y := m_Mo_root) (pc := 416) (zd_dr dc_Mo_root 231 rfl) (by decide))) ?_
  refine zm_ac (om_pk nt_iload (ok_iload (l := l) (B := B) (y := m_Mo_root) (pc := 418) (zd_dr dc_Mo_root 232 rfl))) ?_
  refine zm_ac (om_pk nt_aload (ok_aload_n (l := l) (B := B) (y := m_Mo_root) (pc := 420) (k := 0) rfl (zd_dr dc_Mo_root 233 rfl))) ?_
  refine zm_ac (ok_mgetf rfl (ok_getf (l := l) (B := B) (y := m_Mo_root) (pc := 421) hG (C := zR8) (T := zT8) (N := 21) (ci := 8) (k := 17) rfl zl8 (by decide) (List.mem_of_getElem? (i := 899) (by decide +kernel)) (zd_dr dc_Mo_root 234 rfl))) ?_
  refine zm_ac (om_pk nt_icmp_ge (ok_icmp_ge (l := l) (B := B) (y := m_Mo_root) (pc := 424) (zd_dr dc_Mo_root 235 rfl) (by decide))) ?_
  refine zm_ac (om_pk nt_aload (ok_aload_n (l := l) (B := B) (y := m_Mo_root) (pc := 427) (k := 0) rfl (zd_dr dc_Mo_root 236 rfl))) ?_
  refine zm_ac (om_pk nt_aload (ok_aload_n (l := l) (B := B) (y := m_Mo_root) (pc := 428) (k := 0) rfl (zd_dr dc_Mo_root 237 rfl))) ?_
  refine zm_ac (ok_mgetf rfl (ok_getf (l := l) (B := B) (y := m_Mo_root) (pc := 429) hG (C := zR8) (T := zT8) (N := 21) (ci := 8) (k := 10) rfl zl8 (by decide) (List.mem_of_getElem? (i := 892) (by decide +kernel)) (zd_dr dc_Mo_root 238 rfl))) ?_
  refine zm_ac (om_pk nt_if_ne (ok_if_ne (l := l) (B := B) (y := m_Mo_root) (pc := 432) (zd_dr dc_Mo_root 239 rfl) (by decide))) ?_
  refine zm_ac (om_pk nt_aload (ok_aload_n (l := l) (B := B) (y := m_Mo_root) (pc := 435) (k := 0) rfl (zd_dr dc_Mo_root 240 rfl))) ?_
  refine zm_ac (ok_mgetf rfl (ok_getf (l := l) (B := B) (y := m_Mo_root) (pc := 436) hG (C := zR8) (T := zT8) (N := 21) (ci := 8) (k := 16) rfl zl8 (by decide) (List.mem_of_getElem? (i := 898) (by decide +kernel)) (zd_dr dc_Mo_root 241 rfl))) ?_
  refine zm_ac (om_pk nt_iload (ok_iload (l := l) (B := B) (y := m_Mo_root) (pc := 439) (zd_dr dc_Mo_root 242 rfl))) ?_
  refine zm_ac (ok_miaload (ok_iaload (l := l) (B := B) (y := m_Mo_root) (pc := 441) hG (zd_dr dc_Mo_root 243 rfl))) ?_
  refine zm_ac (om_pk nt_if_eq (ok_if_eq (l := l) (B := B) (y := m_Mo_root) (pc := 442) (zd_dr dc_Mo_root 244 rfl) (by decide))) ?_
  refine zm_ac (om_pk nt_ci (ok_iconst (l := l) (B := B) (y := m_Mo_root) (pc := 445) (n := (1)) (zd_dr dc_Mo_root 245 rfl) rfl)) ?_
  refine zm_ac (om_pk nt_goto (ok_goto (l := l) (B := B) (y := m_Mo_root) (pc := 446) (zd_dr dc_Mo_root 246 rfl) (by decide))) ?_
  refine zm_ac (om_pk nt_ci (ok_iconst (l := l) (B := B) (y := m_Mo_root) (pc := 449) (n := (0)) (zd_dr dc_Mo_root 247 rfl) rfl)) ?_
  refine zm_ac (ok_mputb rfl (ok_putf (l := l) (B := B) (y := m_Mo_root) (pc := 450) hG (C := zR8) (T := zT8) (N := 21) (ci := 8) (k := 10) rfl zl8 zt8 (by decide) (List.mem_of_getElem? (i := 892) (by decide +kernel)) rfl (zd_dr dc_Mo_root 248 rfl))) ?_
  refine zm_ac (om_pk nt_iinc (ok_iinc (l := l) (B := B) (y := m_Mo_root) (pc := 453) (zd_dr dc_Mo_root 249 rfl) (by decide) rfl)) ?_
  refine zm_ac (om_pk nt_goto (ok_goto (l := l) (B := B) (y := m_Mo_root) (pc := 456) (zd_dr dc_Mo_root 250 rfl) (by decide))) ?_
  refine zm_ac (om_pk nt_aload (ok_aload_n (l := l) (B := B) (y := m_Mo_root) (pc := 459) (k := 0) rfl (zd_dr dc_Mo_root 251 rfl))) ?_
  refine zm_ac (om_pk nt_ci (ok_iconst (l := l) (B := B) (y := m_Mo_root) (pc := 460) (n := (0)) (zd_dr dc_Mo_root 252 rfl) rfl)) ?_
  refine zm_ac (ok_mputb rfl (ok_putf (l := l) (B := B) (y := m_Mo_root) (pc := 461) hG (C := zR8) (T := zT8) (N := 21) (ci := 8) (k := 11) rfl zl8 zt8 (by decide) (List.mem_of_getElem? (i := 893) (by decide +kernel)) rfl (zd_dr dc_Mo_root 253 rfl))) ?_
  refine zm_ac (om_pk nt_aload (ok_aload_n (l := l) (B := B) (y := m_Mo_root) (pc := 464) (k := 0) rfl (zd_dr dc_Mo_root 254 rfl))) ?_
  refine zm_ac (om_pk nt_iload (ok_iload_n (l := l) (B := B) (y := m_Mo_root) (pc := 465) (k := 3) rfl (zd_dr dc_Mo_root 255 rfl))) ?_
  refine zm_ac (om_pk nt_lload (ok_lload (l := l) (B := B) (y := m_Mo_root) (pc := 466) (zd_dr dc_Mo_root 256 rfl))) ?_
  refine zm_ac (om_pk nt_iload (ok_iload (l := l) (B := B) (y := m_Mo_root) (pc := 468) (zd_dr dc_Mo_root 257 rfl))) ?_
  refine zm_ac (om_pk nt_iload (ok_iload_n (l := l) (B := B) (y := m_Mo_root) (pc := 470) (k := 2) rfl (zd_dr dc_Mo_root 258 rfl))) ?_
  refine zm_ac (ok_mcallv rfl (ok_callv (l := l) (B := B) (y := m_Mo_root) (pc := 471) hG (ci := 8) rfl cf_Mo_root_Mo_toPrecision rfl (List.mem_of_getElem? (i := 1084) (by decide +kernel)) (List.mem_of_getElem? (i := 1086) (by decide +kernel)) (List.mem_of_getElem? (i := 46) (by decide +kernel)) (zd_dr dc_Mo_root 259 rfl))) ?_
  refine zm_ac (ok_mvret (ok_vret (l := l) (B := B) (y := m_Mo_root) (pc := 474) rfl (zd_dr dc_Mo_root 260 rfl))) ?_
  exact zm_an
