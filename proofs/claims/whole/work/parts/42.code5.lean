/-! written by gencode.py: code of the model -/
theorem cf_Mo_add_Mo_compareSizes : zd_cf m_Mo_add m_Mo_compareSizes 2 := ⟨(List.mem_of_getElem? (i := 1005) (by decide +kernel)), by decide +kernel, by decide, by decide, ⟨by decide, by decide⟩, by decide +kernel⟩
theorem cf_Mo_add_Mo_figure : zd_cf m_Mo_add m_Mo_figure 3 := ⟨(List.mem_of_getElem? (i := 1014) (by decide +kernel)), by decide +kernel, by decide, by decide, ⟨by decide, by decide⟩, by decide +kernel⟩
theorem cf_Mo_add_Mo_isZero : zd_cf m_Mo_add m_Mo_isZero 1 := ⟨(List.mem_of_getElem? (i := 1001) (by decide +kernel)), by decide +kernel, by decide, by decide, ⟨by decide, by decide⟩, by decide +kernel⟩
theorem cf_Mo_add_Mo_no : zd_cf m_Mo_add m_Mo_no 1 := ⟨(List.mem_of_getElem? (i := 966) (by decide +kernel)), by decide +kernel, by decide, by decide, ⟨by decide, by decide⟩, by decide +kernel⟩
theorem cf_Mo_add_Mo_store : zd_cf m_Mo_add m_Mo_store 1 := ⟨(List.mem_of_getElem? (i := 983) (by decide +kernel)), by decide +kernel, by decide, by decide, ⟨by decide, by decide⟩, by decide +kernel⟩
theorem cf_Mo_multiply_Mo_load : zd_cf m_Mo_multiply m_Mo_load 1 := ⟨(List.mem_of_getElem? (i := 1022) (by decide +kernel)), by decide +kernel, by decide, by decide, ⟨by decide, by decide⟩, by decide +kernel⟩
theorem cf_Mo_multiply_Mo_no : zd_cf m_Mo_multiply m_Mo_no 1 := ⟨(List.mem_of_getElem? (i := 966) (by decide +kernel)), by decide +kernel, by decide, by decide, ⟨by decide, by decide⟩, by decide +kernel⟩
theorem cf_Mo_multiply_Mo_store : zd_cf m_Mo_multiply m_Mo_store 1 := ⟨(List.mem_of_getElem? (i := 983) (by decide +kernel)), by decide +kernel, by decide, by decide, ⟨by decide, by decide⟩, by decide +kernel⟩
theorem cf_Mo_multiply_Mo_times : zd_cf m_Mo_multiply m_Mo_times 1 := ⟨(List.mem_of_getElem? (i := 1026) (by decide +kernel)), by decide +kernel, by decide, by decide, ⟨by decide, by decide⟩, by decide +kernel⟩
theorem cf_Mo_power_Mo_no : zd_cf m_Mo_power m_Mo_no 1 := ⟨(List.mem_of_getElem? (i := 966) (by decide +kernel)), by decide +kernel, by decide, by decide, ⟨by decide, by decide⟩, by decide +kernel⟩
theorem cf_Mo_power_Mo_store : zd_cf m_Mo_power m_Mo_store 1 := ⟨(List.mem_of_getElem? (i := 983) (by decide +kernel)), by decide +kernel, by decide, by decide, ⟨by decide, by decide⟩, by decide +kernel⟩
theorem cf_Mo_power_Mo_times : zd_cf m_Mo_power m_Mo_times 1 := ⟨(List.mem_of_getElem? (i := 1026) (by decide +kernel)), by decide +kernel, by decide, by decide, ⟨by decide, by decide⟩, by decide +kernel⟩
theorem cf_Mo_times_Mo_trim : zd_cf m_Mo_times m_Mo_trim 0 := ⟨(List.mem_of_getElem? (i := 987) (by decide +kernel)), by decide +kernel, by decide, by decide, ⟨by decide, by decide⟩, by decide +kernel⟩
def dl_Mo_figure : List (Nat × Instr × Nat) := [(0, .aload_n 0, 1), (1, .getfield 16, 3), (4, .iload_n 1, 1), (5, .iaload, 1), (6, .i2l, 1), (7, .lconst 1, 1), (8, .lsub, 1), (9, .iload 4, 2), (11, .i2l, 1), (12, .lsub, 1), (13, .lload_n 2, 1), (14, .aload_n 0, 1), (15, .getfield 23, 3), (18, .iload_n 1, 1), (19, .iaload, 1), (20, .i2l, 1), (21, .lsub, 1), (22, .ladd, 1), (23, .lstore 5, 2), (25, .lload 5, 2), (27, .lconst 0, 1), (28, .lcmp, 1), (29, .ifCond .lt (16), 3), (32, .lload 5, 2), (34, .aload_n 0, 1), (35, .getfield 16, 3), (38, .iload_n 1, 1), (39, .iaload, 1), (40, .i2l, 1), (41, .lcmp, 1), (42, .ifCond .lt (7), 3), (45, .iconst (0), 1), (46, .goto (17), 3), (49, .aload_n 0, 1), (50, .getfield 13, 3), (53, .sipush (1000), 3), (56, .iload_n 1, 1), (57, .imul, 1), (58, .lload 5, 2), (60, .l2i, 1), (61, .iadd, 1), (62, .iaload, 1), (63, .ireturn, 1)]
theorem dc_Mo_figure : ∀ q ∈ dl_Mo_figure, decode (zd_yb m_Mo_figure) q.1 = .ok q.2 := by decide +kernel
def cm_Mo_figure (l : Launch) (B : zd_B) : List (Nat × zm_S) := [(0, om_p (oc_aload 0 1)), (1, om_getf gM 4 4), (4, om_p (oc_iload 1 5)), (5, om_ald gM 0 6), (6, om_p (oc_i2l 7)), (7, om_p (oc_cl 1 8)), (8, om_p (oc_lsub 9)), (9, om_p (oc_iload 4 11)), (11, om_p (oc_i2l 12)), (12, om_p (oc_lsub 13)), (13, om_p (oc_lload 2 14)), (14, om_p (oc_aload 0 15)), (15, om_getf gM 6 18), (18, om_p (oc_iload 1 19)), (19, om_ald gM 0 20), (20, om_p (oc_i2l 21)), (21, om_p (oc_lsub 22)), (22, om_p (oc_ladd 23)), (23, om_p (oc_lstore 5 25)), (25, om_p (oc_lload 5 27)), (27, om_p (oc_cl 0 28)), (28, om_p (oc_lcmp 29)), (29, om_p (oc_if_lt 45 32)), (32, om_p (oc_lload 5 34)), (34, om_p (oc_aload 0 35)), (35, om_getf gM 4 38), (38, om_p (oc_iload 1 39)), (39, om_ald gM 0 40), (40, om_p (oc_i2l 41)), (41, om_p (oc_lcmp 42)), (42, om_p (oc_if_lt 49 45)), (45, om_p (oc_ci (0) 46)), (46, om_p (oc_goto 63)), (49, om_p (oc_aload 0 50)), (50, om_getf gM 3 53), (53, om_p (oc_ci (1000) 56)), (56, om_p (oc_iload 1 57)), (57, om_p (oc_imul 58)), (58, om_p (oc_lload 5 60)), (60, om_p (oc_l2i 61)), (61, om_p (oc_iadd 62)), (62, om_ald gM 0 63), (63, om_iret)]
set_option maxRecDepth 20000 in
theorem okm_Mo_figure {l : Launch} {B : zd_B} (hG : zd_G B) (hl : l.stackTraces = false) : ∀ q ∈ cm_Mo_figure l B, zm_ok l B gM m_Mo_figure q.1 q.2 := by
  unfold cm_Mo_figure
  refine zm_ac (om_pk nt_aload (ok_aload_n (l := l) (B := B) (y := m_Mo_figure) (pc := 0) (k := 0) rfl (zd_dr dc_Mo_figure 0 rfl))) ?_
  refine zm_ac (ok_mgetf rfl (ok_getf (l := l) (B := B) (y := m_Mo_figure) (pc := 1) hG (C := zR8) (T := zT8) (N := 21) (ci := 8) (k := 4) rfl zl8 (by decide) (List.mem_of_getElem? (i := 886) (by decide +kernel)) (zd_dr dc_Mo_figure 1 rfl))) ?_
  refine zm_ac (om_pk nt_iload (ok_iload_n (l := l) (B := B) (y := m_Mo_figure) (pc := 4) (k := 1) rfl (zd_dr dc_Mo_figure 2 rfl))) ?_
  refine zm_ac (ok_miaload (ok_iaload (l := l) (B := B) (y := m_Mo_figure) (pc := 5) hG (zd_dr dc_Mo_figure 3 rfl))) ?_
  refine zm_ac (om_pk nt_i2l (ok_i2l (l := l) (B := B) (y := m_Mo_figure) (pc := 6) (zd_dr dc_Mo_figure 4 rfl))) ?_
  refine zm_ac (om_pk nt_cl (ok_lconst (l := l) (B := B) (y := m_Mo_figure) (pc := 7) (n := 1) (zd_dr dc_Mo_figure 5 rfl) rfl)) ?_
  refine zm_ac (om_pk nt_lsub (ok_lsub (l := l) (B := B) (y := m_Mo_figure) (pc := 8) (zd_dr dc_Mo_figure 6 rfl))) ?_
  refine zm_ac (om_pk nt_iload (ok_iload (l := l) (B := B) (y := m_Mo_figure) (pc := 9) (zd_dr dc_Mo_figure 7 rfl))) ?_
  refine zm_ac (om_pk nt_i2l (ok_i2l (l := l) (B := B) (y := m_Mo_figure) (pc := 11) (zd_dr dc_Mo_figure 8 rfl))) ?_
  refine zm_ac (om_pk nt_lsub (ok_lsub (l := l) (B := B) (y := m_Mo_figure) (pc := 12) (zd_dr dc_Mo_figure 9 rfl))) ?_
  refine zm_ac (om_pk nt_lload (ok_lload_n (l := l) (B := B) (y := m_Mo_figure) (pc := 13) (k := 2) rfl (zd_dr dc_Mo_figure 10 rfl))) ?_
  refine zm_ac (om_pk nt_aload (ok_aload_n (l := l) (B := B) (y := m_Mo_figure) (pc := 14) (k := 0) rfl (zd_dr dc_Mo_figure 11 rfl))) ?_
  refine zm_ac (ok_mgetf rfl (ok_getf (l := l) (B := B) (y := m_Mo_figure) (pc := 15) hG (C := zR8) (T := zT8) (N := 21) (ci := 8) (k := 6) rfl zl8 (by decide) (List.mem_of_getElem? (i := 888) (by decide +kernel)) (zd_dr dc_Mo_figure 12 rfl))) ?_
  refine zm_ac (om_pk nt_iload (ok_iload_n (l := l) (B := B) (y := m_Mo_figure) (pc := 18) (k := 1) rfl (zd_dr dc_Mo_figure 13 rfl))) ?_
  refine zm_ac (ok_miaload (ok_iaload (l := l) (B := B) (y := m_Mo_figure) (pc := 19) hG (zd_dr dc_Mo_figure 14 rfl))) ?_
  refine zm_ac (om_pk nt_i2l (ok_i2l (l := l) (B := B) (y := m_Mo_figure) (pc := 20) (zd_dr dc_Mo_figure 15 rfl))) ?_
  refine zm_ac (om_pk nt_lsub (ok_lsub (l := l) (B := B) (y := m_Mo_figure) (pc := 21) (zd_dr dc_Mo_figure 16 rfl))) ?_
  refine zm_ac (om_pk nt_ladd (ok_ladd (l := l) (B := B) (y := m_Mo_figure) (pc := 22) (zd_dr dc_Mo_figure 17 rfl))) ?_
  refine zm_ac (om_pk nt_lstore (ok_lstore (l := l) (B := B) (y := m_Mo_figure) (pc := 23) (zd_dr dc_Mo_figure 18 rfl) (by decide))) ?_
  refine zm_ac (om_pk nt_lload (ok_lload (l := l) (B := B) (y := m_Mo_figure) (pc := 25) (zd_dr dc_Mo_figure 19 rfl))) ?_
  refine zm_ac (om_pk nt_cl (ok_lconst (l := l) (B := B) (y := m_Mo_figure) (pc := 27) (n := 0) (zd_dr dc_Mo_figure 20 rfl) rfl)) ?_
  refine zm_ac (om_pk nt_lcmp (ok_lcmp (l := l) (B := B) (y := m_Mo_figure) (pc := 28) (zd_dr dc_Mo_figure 21 rfl))) ?_
  refine zm_ac (om_pk nt_if_lt (ok_if_lt (l := l) (B := B) (y := m_Mo_figure) (pc := 29) (zd_dr dc_Mo_figure 22 rfl) (by decide))) ?_
  refine zm_ac (om_pk nt_lload (ok_lload (l := l) (B := B) (y := m_Mo_figure) (pc := 32) (zd_dr dc_Mo_figure 23 rfl))) ?_
  refine zm_ac (om_pk nt_aload (ok_aload_n (l := l) (B := B) (y := m_Mo_figure) (pc := 34) (k := 0) rfl (zd_dr dc_Mo_figure 24 rfl))) ?_
  refine zm_ac (ok_mgetf rfl (ok_getf (l := l) (B := B) (y := m_Mo_figure) (pc := 35) hG (C := zR8) (T := zT8) (N := 21) (ci := 8) (k := 4) rfl zl8 (by decide) (List.mem_of_getElem? (i := 886) (by decide +kernel)) (zd_dr dc_Mo_figure 25 rfl))) ?_
  refine zm_ac (om_pk nt_iload (ok_iload_n (l := l) (B := B) (y := m_Mo_figure) (pc := 38) (k := 1) rfl (zd_dr dc_Mo_figure 26 rfl))) ?_
  refine zm_ac (ok_miaload (ok_iaload (l := l) (B := B) (y := m_Mo_figure) (pc := 39) hG (zd_dr dc_Mo_figure 27 rfl))) ?_
  refine zm_ac (om_pk nt_i2l (ok_i2l (l := l) (B := B) (y := m_Mo_figure) (pc := 40) (zd_dr dc_Mo_figure 28 rfl))) ?_
  refine zm_ac (om_pk nt_lcmp (ok_lcmp (l := l) (B := B) (y := m_Mo_figure) (pc := 41) (zd_dr dc_Mo_figure 29 rfl))) ?_
  refine zm_ac (om_pk nt_if_lt (ok_if_lt (l := l) (B := B) (y := m_Mo_figure) (pc := 42) (zd_dr dc_Mo_figure 30 rfl) (by decide))) ?_
  refine zm_ac (om_pk nt_ci (ok_iconst (l := l) (B := B) (y := m_Mo_figure) (pc := 45) (n := (0)) (zd_dr dc_Mo_figure 31 rfl) rfl)) ?_
  refine zm_ac (om_pk nt_goto (ok_goto (l := l) (B := B) (y := m_Mo_figure) (pc := 46) (zd_dr dc_Mo_figure 32 rfl) (by decide))) ?_
  refine zm_ac (om_pk nt_aload (ok_aload_n (l := l) (B := B) (y := m_Mo_figure) (pc := 49) (k := 0) rfl (zd_dr dc_Mo_figure 33 rfl))) ?_
  refine zm_ac (ok_mgetf rfl (ok_getf (l := l) (B := B) (y := m_Mo_figure) (pc := 50) hG (C := zR8) (T := zT8) (N := 21) (ci := 8) (k := 3) rfl zl8 (by decide) (List.mem_of_getElem? (i := 885) (by decide +kernel)) (zd_dr dc_Mo_figure 34 rfl))) ?_
  refine zm_ac (om_pk nt_ci (ok_sipush (l := l) (B := B) (y := m_Mo_figure) (pc := 53) (n := (1000)) (zd_dr dc_Mo_figure 35 rfl) rfl)) ?_
  refine zm_ac (om_pk nt_iload (ok_iload_n (l := l) (B := B) (y := m_Mo_figure) (pc := 56) (k := 1) rfl (zd_dr dc_Mo_figure 36 rfl))) ?_
  refine zm_ac (om_pk nt_imul (ok_imul (l := l) (B := B) (y := m_Mo_figure) (pc := 57) (zd_dr dc_Mo_figure 37 rfl))) ?_
  refine zm_ac (om_pk nt_lload (ok_lload (l := l) (B := B) (y := m_Mo_figure) (pc := 58) (zd_dr dc_Mo_figure 38 rfl))) ?_
  refine zm_ac (om_pk nt_l2i (ok_l2i (l := l) (B := B) (y := m_Mo_figure) (pc := 60) (zd_dr dc_Mo_figure 39 rfl))) ?_
  refine zm_ac (om_pk nt_iadd (ok_iadd (l := l) (B := B) (y := m_Mo_figure) (pc := 61) (zd_dr dc_Mo_figure 40 rfl))) ?_
  refine zm_ac (ok_miaload (ok_iaload (l := l) (B := B) (y := m_Mo_figure) (pc := 62) hG (zd_dr dc_Mo_figure 41 rfl))) ?_
  refine zm_ac (ok_miret (ok_iret (l := l) (B := B) (y := m_Mo_figure) (pc := 63) rfl (zd_dr dc_Mo_figure 42 rfl))) ?_
  exact zm_an
def dl_Mo_add : List (Nat × Instr × Nat) := [(0, .aload_n 0, 1), (1, .iload_n 1, 1), (2, .invokestatic 113, 3), (5, .ifCond .ne (17), 3), (8, .iload_n 2, 1), (9, .invokestatic 113, 3), (12, .ifCond .ne (10), 3), (15, .iload_n 3, 1), (16, .invokestatic 113, 3), (19, .ifCond .eq (7), 3), (22, .iconst (1), 1), (23, .goto (4), 3), (26, .iconst (0), 1), (27, .putfield 41, 3), (30, .aload_n 0, 1), (31, .getfield 41, 3), (34, .ifCond .le (4), 3), (37, .return_, 1), (38, .aload_n 0, 1), (39, .iconst (2), 1), (40, .putfield 66, 3), (43, .aload_n 0, 1), (44, .getfield 23, 3), (47, .iload_n 1, 1), (48, .iaload, 1), (49, .aload_n 0, 1), (50, .getfield 23, 3), (53, .iload_n 2, 1), (54, .iaload, 1), (55, .if_icmp .le (13), 3), (58, .aload_n 0, 1), (59, .getfield 23, 3), (62, .iload_n 1, 1), (63, .iaload, 1), (64, .i2l, 1), (65, .goto (10), 3), (68, .aload_n 0, 1), (69, .getfield 23, 3), (72, .iload_n 2, 1), (73, .iaload, 1), (74, .i2l, 1), (75, .lstore 5, 2), (77, .aload_n 0, 1), (78, .iload_n 1, 1), (79, .invokevirtual 120, 3), (82, .ifCond .eq (7), 3), (85, .lconst 1, 1), (86, .goto (21), 3), (89, .aload_n 0, 1), (90, .getfield 16, 3), (93, .iload_n 1, 1), (94, .iaload, 1), (95, .i2l, 1), (96, .lload 5, 2), (98, .ladd, 1), (99, .aload_n 0, 1), (100, .getfield 23, 3), (103, .iload_n 1, 1), (104, .iaload, 1), (105, .i2l, 1), (106, .lsub, 1), (107, .lstore 7, 2), (109, .aload_n 0, 1), (110, .iload_n 2, 1), (111, .invokevirtual 120, 3), (114, .ifCond .eq (7), 3), (117, .lconst 1, 1), (118, .goto (21), 3), (121, .aload_n 0, 1), (122, .getfield 16, 3), (125, .iload_n 2, 1), (126, .iaload, 1), (127, .i2l, 1), (128, .lload 5, 2), (130, .ladd, 1), (131, .aload_n 0, 1), (132, .getfield 23, 3), (135, .iload_n 2, 1), (136, .iaload, 1), (137, .i2l, 1), (138, .lsub, 1), (139, .lstore 9, 2), (141, .lload 7, 2), (143, .ldc2_w 126, 3), (146, .lcmp, 1), (147, .ifCond .gt (12), 3), (150, .lload 9, 2), (152, .ldc2_w 126, 3), (155, .lcmp, 1), (156, .ifCond .le (9), 3), (159, .aload_n 0, 1), (160, .iconst (2), 1), (161, .putfield 41, 3), (164, .return_, 1), (165, .aload_n 0, 1), (166, .iload_n 2, 1), (167, .invokevirtual 120, 3), (170, .ifCond .ne (18), 3), (173, .aload_n 0, 1), (174, .getfield 19, 3), (177, .iload_n 2, 1), (178, .baload, 1), (179, .iload 4, 2), (181, .if_icmp .eq (7), 3), (184, .iconst (1), 1), (185, .goto (4), 3), (188, .iconst (0), 1), (189, .istore 11, 2), (191, .aload_n 0, 1), (192, .iload_n 1, 1), (193, .invokevirtual 120, 3), (196, .ifCond .ne (22), 3), (199, .aload_n 0, 1), (200, .iload_n 2, 1), (201, .invokevirtual 120, 3), (204, .ifCond .ne (14), 3), (207, .aload_n 0, 1), (208, .getfield 19, 3), (211, .iload_n 1, 1), (212, .baload, 1), (213, .iload 11, 2), (215, .if_icmp .ne (7), 3), (218, .iconst (1), 1), (219, .goto (4), 3), (222, .iconst (0), 1), (223, .istore 12, 2), (225, .iload 12, 2), (227, .ifCond .ne (16), 3), (230, .aload_n 0, 1), (231, .iload_n 1, 1), (232, .iload_n 2, 1), (233, .invokevirtual 123, 3), (236, .ifCond .ge (7), 3), (239, .iconst (1), 1), (240, .goto (4), 3), (243, .iconst (0), 1), (244, .istore 13, 2), (246, .iload 13, 2), (248, .ifCond .eq (7), 3), (251, .iload_n 2, 1), (252, .goto (4), 3), (255, .iload_n 1, 1), (256, .istore 14, 2), (258, .iload 13, 2), (260, .ifCond .eq (7), 3), (263, .iload_n 1, 1), (264, .goto (4), 3), (267, .iload_n 2, 1), (268, .istore 15, 2), (270, .lload 7, 2), (272, .lload 9, 2), (274, .lcmp, 1), (275, .ifCond .le (8), 3), (278, .lload 7, 2), (280, .goto (5), 3), (283, .lload 9, 2), (285, .l2i, 1), (286, .iconst (1), 1), (287, .iadd, 1), (288, .istore 16, 2), (290, .iconst (0), 1), (291, .istore 17, 2), (293, .iconst (0), 1), (294, .istore 18, 2), (296, .iload 18, 2), (298, .iload 16, 2), (300, .if_icmp .ge (90), 3), (303, .aload_n 0, 1), (304, .iload 14, 2), (306, .lload 5, 2), (308, .iload 18, 2), (310, .invokevirtual 128, 3), (313, .iload 12, 2), (315, .ifCond .eq (16), 3), (318, .aload_n 0, 1), (319, .iload 15, 2), (321, .lload 5, 2), (323, .iload 18, 2), (325, .invokevirtual 128, 3), (328, .goto (14), 3), (331, .aload_n 0, 1), (332, .iload 15, 2), (334, .lload 5, 2), (336, .iload 18, 2), (338, .invokevirtual 128, 3), (341, .ineg, 1), (342, .iadd, 1), (343, .iload 17, 2), (345, .iadd, 1), (346, .istore 19, 2), (348, .aload_n 0, 1), (349, .getfield 26, 3), (352, .iload 16, 2), (354, .iconst (1), 1), (355, .isub, 1), (356, .iload 18, 2), (358, .isub, 1), (359, .iload 19, 2), (361, .bipush (10), 2), (363, .iadd, 1), (364, .bipush (10), 2), (366, .irem, 1), (367, .iastore, 1), (368, .iload 19, 2), (370, .ifCond .ge (7), 3), (373, .iconst (-1), 1), (374, .goto (8), 3), (377, .iload 19, 2), (379, .bipush (10), 2), (381, .idiv, 1), (382, .istore 17, 2), (384, .iinc 18 (1), 3), (387, .goto (-91), 3), (390, .aload_n 0, 1), (391, .iload 16, 2), (393, .putfield 45, 3), (396, .aload_n 0, 1), (397, .lload 5, 2), (399, .putfield 48, 3), (402, .aload_n 0, 1), (403, .iconst (0), 1), (404, .putfield 52, 3), (407, .aload_n 0, 1), (408, .aload_n 0, 1), (409, .iload_n 1, 1), (410, .invokevirtual 120, 3), (413, .ifCond .eq (8), 3), (416, .iload 11, 2), (418, .goto (36), 3), (421, .aload_n 0, 1), (422, .iload_n 2, 1), (423, .invokevirtual 120, 3), (426, .ifCond .eq (12), 3), (429, .aload_n 0, 1), (430, .getfield 19, 3), (433, .iload_n 1, 1), (434, .baload, 1), (435, .goto (19), 3), (438, .iload 13, 2), (440, .ifCond .eq (8), 3), (443, .iload 11, 2), (445, .goto (9), 3), (448, .aload_n 0, 1), (449, .getfield 19, 3), (452, .iload_n 1, 1), (453, .baload, 1), (454, .putfield 56, 3), (457, .aload_n 0, 1), (458, .iload_n 3, 1), (459, .invokevirtual 89, 3), (462, .return_, 1)]
theorem dc_Mo_add : ∀ q ∈ dl_Mo_add, decode (zd_yb m_Mo_add) q.1 = .ok q.2 := by decide +kernel
def cm_Mo_add (l : Launch) (B : zd_B) : List (Nat × zm_S) := [(0, om_p (oc_aload 0 1)), (1, om_p (oc_iload 1 2)), (2, om_calls l B gM m_Mo_no 1 5), (5, om_p (oc_if_ne 22 8)), (8, om_p (oc_iload 2 9)), (9, om_calls l B gM m_Mo_no 1 12), (12, om_p (oc_if_ne 22 15)), (15, om_p (oc_iload 3 16)), (16, om_calls l B gM m_Mo_no 1 19), (19, om_p (oc_if_eq 26 22)), (22, om_p (oc_ci (1) 23)), (23, om_p (oc_goto 27)), (26, om_p (oc_ci (0) 27)), (27, om_puti gM 0 30), (30, om_p (oc_aload 0 31)), (31, om_getf gM 0 34), (34, om_p (oc_if_le 38 37)), (37, om_vret), (38, om_p (oc_aload 0 39)), (39, om_p (oc_ci (2) 40)), (40, om_puti gM 20 43), (43, om_p (oc_aload 0 44)), (44, om_getf gM 6 47), (47, om_p (oc_iload 1 48)), (48, om_ald gM 0 49), (49, om_p (oc_aload 0 50)), (50, om_getf gM 6 53), (53, om_p (oc_iload 2 54)), (54, om_ald gM 0 55), (55, om_p (oc_icmp_le 68 58)), (58, om_p (oc_aload 0 59)), (59, om_getf gM 6 62), (62, om_p (oc_iload 1 63)), (63, om_ald gM 0 64), (64, om_p (oc_i2l 65)), (65, om_p (oc_goto 75)), (68, om_p (oc_aload 0 69)), (69, om_getf gM 6 72), (72, om_p (oc_iload 2 73)), (73, om_ald gM 0 74), (74, om_p (oc_i2l 75)), (75, om_p (oc_lstore 5 77)), (77, om_p (oc_aload 0 78)), (78, om_p (oc_iload 1 79)), (79, om_callv l B gM m_Mo_isZero 1 82), (82, om_p (oc_if_eq 89 85)), (85, om_p (oc_cl 1 86)), (86, om_p (oc_goto 107)), (89, om_p (oc_aload 0 90)), (90, om_getf gM 4 93), (93, om_p (oc_iload 1 94)), (94, om_ald gM 0 95), (95, om_p (oc_i2l 96)), (96, om_p (oc_lload 5 98)), (98, om_p (oc_ladd 99)), (99, om_p (oc_aload 0 100)), (100, om_getf gM 6 103), (103, om_p (oc_iload 1 104)), (104, om_ald gM 0 105), (105, om_p (oc_i2l 106)), (106, om_p (oc_lsub 107)), (107, om_p (oc_lstore 7 109)), (109, om_p (oc_aload 0 110)), (110, om_p (oc_iload 2 111)), (111, om_callv l B gM m_Mo_isZero 1 114), (114, om_p (oc_if_eq 121 117)), (117, om_p (oc_cl 1 118)), (118, om_p (oc_goto 139)), (121, om_p (oc_aload 0 122)), (122, om_getf gM 4 125), (125, om_p (oc_iload 2 126)), (126, om_ald gM 0 127), (127, om_p (oc_i2l 128)), (128, om_p (oc_lload 5 130)), (130, om_p (oc_ladd 131)), (131, om_p (oc_aload 0 132)), (132, om_getf gM 6 135), (135, om_p (oc_iload 2 136)), (136, om_ald gM 0 137), (137, om_p (oc_i2l 138)), (138, om_p (oc_lsub 139)), (139, om_p (oc_lstore 9 141)), (141, om_p (oc_lload 7 143)), (143, om_p (oc_cl (1001) 146)), (146, om_p (oc_lcmp 147)), (147, om_p (oc_if_gt 159 150)), (150, om_p (oc_lload 9 152)), (152, om_p (oc_cl (1001) 155)), (155, om_p (oc_lcmp 156)), (156, om_p (oc_if_le 165 159)), (159, om_p (oc_aload 0 160)), (160, om_p (oc_ci (2) 161)), (161, om_puti gM 0 164), (164, om_vret), (165, om_p (oc_aload 0 166)), (166, om_p (oc_iload 2 167)), (167, om_callv l B gM m_Mo_isZero 1 170), (170, om_p (oc_if_ne 188 173)), (173, om_p (oc_aload 0 174)), (174, om_getf gM 5 177), (177, om_p (oc_iload 2 178)), (178, om_ald gM 2 179), (179, om_p (oc_iload 4 181)), (181, om_p (oc_icmp_eq 188 184)), (184, om_p (oc_ci (1) 185)), (185, om_p (oc_goto 189)), (188, om_p (oc_ci (0) 189)), (189, om_p (oc_istore 11 191)), (191, om_p (oc_aload 0 192)), (192, om_p (oc_iload 1 193)), (193, om_callv l B gM m_Mo_isZero 1 196), (196, om_p (oc_if_ne 218 199)), (199, om_p (oc_aload 0 200)), (200, om_p (oc_iload 2 201)), (201, om_callv l B gM m_Mo_isZero 1 204), (204, om_p (oc_if_ne 218 207)), (207, om_p (oc_aload 0 208)), (208, om_getf gM 5 211), (211, om_p (oc_iload 1 212)), (212, om_ald gM 2 213), (213, om_p (oc_iload 11 215)), (215, om_p (oc_icmp_ne 222 218)), (218, om_p (oc_ci (1) 219)), (219, om_p (oc_goto 223)), (222, om_p (oc_ci (0) 223)), (223, om_p (oc_istore 12 225)), (225, om_p (oc_iload 12 227)), (227, om_p (oc_if_ne 243 230)), (230, om_p (oc_aload 0 231)), (231, om_p (oc_iload 1 232)), (232, om_p (oc_iload 2 233)), (233, om_callv l B gM m_Mo_compareSizes 2 236), (236, om_p (oc_if_ge 243 239)), (239, om_p (oc_ci (1) 240)), (240, om_p (oc_goto 244)), (243, om_p (oc_ci (0) 244)), (244, om_p (oc_istore 13 246)), (246, om_p (oc_iload 13 248)), (248, om_p (oc_if_eq 255 251)), (251, om_p (oc_iload 2 252)), (252, om_p (oc_goto 256)), (255, om_p (oc_iload 1 256)), (256, om_p (oc_istore 14 258)), (258, om_p (oc_iload 13 260)), (260, om_p (oc_if_eq 267 263)), (263, om_p (oc_iload 1 264)), (264, om_p (oc_goto 268)), (267, om_p (oc_iload 2 268)), (268, om_p (oc_istore 15 270)), (270, om_p (oc_lload 7 272)), (272, om_p (oc_lload 9 274)), (274, om_p (oc_lcmp 275)), (275, om_p (oc_if_le 283 278)), (278, om_p (oc_lload 7 280)), (280, om_p (oc_goto 285)), (283, om_p (oc_lload 9 285)), (285, om_p (oc_l2i 286)), (286, om_p (oc_ci (1) 287)), (287, om_p (oc_iadd 288)), (288, om_p (oc_istore 16 290)), (290, om_p (oc_ci (0) 291)), (291, om_p (oc_istore 17 293)), (293, om_p (oc_ci (0) 294)), (294, om_p (oc_istore 18 296)), (296, om_p (oc_iload 18 298)), (298, om_p (oc_iload 16 300)), (300, om_p (oc_icmp_ge 390 303)), (303, om_p (oc_aload 0 304)), (304, om_p (oc_iload 14 306)), (306, om_p (oc_lload 5 308)), (308, om_p (oc_iload 18 310)), (310, om_callv l B gM m_Mo_figure 3 313), (313, om_p (oc_iload 12 315)), (315, om_p (oc_if_eq 331 318)), (318, om_p (oc_aload 0 319)), (319, om_p (oc_iload 15 321)), (321, om_p (oc_lload 5 323)), (323, om_p (oc_iload 18 325)), (325, om_callv l B gM m_Mo_figure 3 328), (328, om_p (oc_goto 342)), (331, om_p (oc_aload 0 332)), (332, om_p (oc_iload 15 334)), (334, om_p (oc_lload 5 336)), (336, om_p (oc_iload 18 338)), (338, om_callv l B gM m_Mo_figure 3 341), (341, om_p (oc_ineg 342)), (342, om_p (oc_iadd 343)), (343, om_p (oc_iload 17 345)), (345, om_p (oc_iadd 346)), (346, om_p (oc_istore 19 348)), (348, om_p (oc_aload 0 349)), (349, om_getf gM 7 352), (352, om_p (oc_iload 16 354)), (354, om_p (oc_ci (1) 355)), (355, om_p (oc_isub 356)), (356, om_p (oc_iload 18 358)), (358, om_p (oc_isub 359)), (359, om_p (oc_iload 19 361)), (361, om_p (oc_ci (10) 363)), (363, om_p (oc_iadd 364)), (364, om_p (oc_ci (10) 366)), (366, om_p (oc_irem 367)), (367, om_ast gM 0 cs_i 368), (368, om_p (oc_iload 19 370)), (370, om_p (oc_if_ge 377 373)), (373, om_p (oc_ci (-1) 374)), (374, om_p (oc_goto 382)), (377, om_p (oc_iload 19 379)), (379, om_p (oc_ci (10) 381)), (381, om_p (oc_idiv 382)), (382, om_p (oc_istore 17 384)), (384, om_p (oc_iinc 18 (1) 387)), (387, om_p (oc_goto 296)), (390, om_p (oc_aload 0 391)), (391, om_p (oc_iload 16 393)), (393, om_puti gM 8 396), (396, om_p (oc_aload 0 397)), (397, om_p (oc_lload 5 399)), (399, om_putl gM 9 402), (402, om_p (oc_aload 0 403)), (403, om_p (oc_ci (0) 404)), (404, om_putb gM 10 407), (407, om_p (oc_aload 0 408)), (408, om_p (oc_aload 0 409)), (409, om_p (oc_iload 1 410)), (410, om_callv l B gM m_Mo_isZero 1 413), (413, om_p (oc_if_eq 421 416)), (416, om_p (oc_iload 11 418)), (418, om_p (oc_goto 454)), (421, om_p (oc_aload 0 422)), (422, om_p (oc_iload 2 423)), (423, om_callv l B gM m_Mo_isZero 1 426), (426, om_p (oc_if_eq 438 429)), (429, om_p (oc_aload 0 430)), (430, om_getf gM 5 433), (433, om_p (oc_iload 1 434)), (434, om_ald gM 2 435), (435, om_p (oc_goto 454)), (438, om_p (oc_iload 13 440)), (440, om_p (oc_if_eq 448 443)), (443, om_p (oc_iload 11 445)), (445, om_p (oc_goto 454)), (448, om_p (oc_aload 0 449)), (449, om_getf gM 5 452), (452, om_p (oc_iload 1 453)), (453, om_ald gM 2 454), (454, om_putb gM 11 457), (457, om_p (oc_aload 0 458)), (458, om_p (oc_iload 3 459)), (459, om_callv l B gM m_Mo_store 1 462), (462, om_vret)]
set_option maxRecDepth 20000 in
theorem okm_Mo_add {l : Launch} {B : zd_B} (hG : zd_G B) (hl : l.stackTraces = false) : ∀ q ∈ cm_Mo_add l B, zm_ok l B gM m_Mo_add q.1 q.2 := by
  unfold cm_Mo_add
  refine zm_ac (om_pk nt_aload (ok_aload_n (l := l) (B := B) (y := m_Mo_add) (pc := 0) (k := 0) rfl (zd_dr dc_Mo_add 0 rfl))) ?_
  refine zm_ac (om_pk nt_iload (ok_iload_n (l := l) (B := B) (y := m_Mo_add) (pc := 1) (k := 1) rfl (zd_dr dc_Mo_add 1 rfl))) ?_
  refine zm_ac (ok_mcalls (ok_calls (l := l) (B := B) (y := m_Mo_add) (pc := 2) hG cf_Mo_add_Mo_no rfl (List.mem_of_getElem? (i := 964) (by decide +kernel)) (List.mem_of_getElem? (i := 965) (by decide +kernel)) (List.mem_of_getElem? (i := 64) (by decide +kernel)) (zd_dr dc_Mo_add 2 rfl))) ?_
  refine zm_ac (om_pk nt_if_ne (ok_if_ne (l := l) (B := B) (y := m_Mo_add) (pc := 5) (zd_dr dc_Mo_add 3 rfl) (by decide))) ?_
  refine zm_ac (om_pk nt_iload (ok_iload_n (l := l) (B := B) (y := m_Mo_add) (pc := 8) (k := 2) rfl (zd_dr dc_Mo_add 4 rfl))) ?_
  refine zm_ac (ok_mcalls (ok_calls (l := l) (B := B) (y := m_Mo_add) (pc := 9) hG cf_Mo_add_Mo_no rfl (List.mem_of_getElem? (i := 964) (by decide +kernel)) (List.mem_of_getElem? (i := 965) (by decide +kernel)) (List.mem_of_getElem? (i := 64) (by decide +kernel)) (zd_dr dc_Mo_add 5 rfl))) ?_
  refine zm_ac (om_pk nt_if_ne (ok_if_ne (l := l) (B := B) (y := m_Mo_add) (pc := 12) (zd_dr dc_Mo_add 6 rfl) (by decide))) ?_
  refine zm_ac (om_pk nt_iload (ok_iload_n (l := l) (B := B) (y := m_Mo_add) (pc := 15) (k := 3) rfl (zd_dr dc_Mo_add 7 rfl))) ?_
  refine zm_ac (ok_mcalls (ok_calls (l := l) (B := B) (y := m_Mo_add) (pc := 16) hG cf_Mo_add_Mo_no rfl (List.mem_of_getElem? (i := 964) (by decide +kernel)) (List.mem_of_getElem? (i := 965) (by decide +kernel)) (List.mem_of_getElem? (i := 64) (by decide +kernel)) (zd_dr dc_Mo_add 8 rfl))) ?_
  refine zm_ac (om_pk nt_if_eq (ok_if_eq (l := l) (B := B) (y := m_Mo_add) (pc := 19) (zd_dr dc_Mo_add 9 rfl) (by decide))) ?_
  refine zm_ac (om_pk nt_ci (ok_iconst (l := l) (B := B) (y := m_Mo_add) (pc := 22) (n := (1)) (zd_dr dc_Mo_add 10 rfl) rfl)) ?_
  refine zm_ac (om_pk nt_goto (ok_goto (l := l) (B := B) (y := m_Mo_add) (pc := 23) (zd_dr dc_Mo_add 11 rfl) (by decide))) ?_
  refine zm_ac (om_pk nt_ci (ok_iconst (l := l) (B := B) (y := m_Mo_add) (pc := 26) (n := (0)) (zd_dr dc_Mo_add 12 rfl) rfl)) ?_
  refine zm_ac (ok_mputi rfl (ok_putf (l := l) (B := B) (y := m_Mo_add) (pc := 27) hG (C := zR8) (T := zT8) (N := 21) (ci := 8) (k := 0) rfl zl8 zt8 (by decide) (List.mem_of_getElem? (i := 882) (by decide +kernel)) rfl (zd_dr dc_Mo_add 13 rfl))) ?_
  refine zm_ac (om_pk nt_aload (ok_aload_n (l := l) (B := B) (y := m_Mo_add) (pc := 30) (k := 0) rfl (zd_dr dc_Mo_add 14 rfl))) ?_
  refine zm_ac (ok_mgetf rfl (ok_getf (l := l) (B := B) (y := m_Mo_add) (pc := 31) hG (C := zR8) (T := zT8) (N := 21) (ci := 8) (k := 0) rfl zl8 (by decide) (List.mem_of_getElem? (i := 882) (by decide +kernel)) (zd_dr dc_Mo_add 15 rfl))) ?_
  refine zm_ac (om_pk nt_if_le (ok_if_le (l := l) (B := B) (y := m_Mo_add) (pc := 34) (zd_dr dc_Mo_add 16 rfl) (by decide))) ?_
  refine zm_ac (ok_mvret (ok_vret (l := l) (B := B) (y := m_Mo_add) (pc := 37) rfl (zd_dr dc_Mo_add 17 rfl))) ?_
  refine zm_ac (om_pk nt_aload (ok_aload_n (l := l) (B := B) (y := m_Mo_add) (pc := 38) (k := 0) rfl (zd_dr dc_Mo_add 18 rfl))) ?_
  refine zm_ac (om_pk nt_ci (ok_iconst (l := l) (B := B) (y := m_Mo_add) (pc := 39) (n := (2)) (zd_dr dc_Mo_add 19 rfl) rfl)) ?_
  refine zm_ac (ok_mputi rfl (ok_putf (l := l) (B := B) (y := m_Mo_add) (pc := 40) hG (C := zR8) (T := zT8) (N := 21) (ci := 8) (k := 20) rfl zl8 zt8 (by decide) (List.mem_of_getElem? (i := 902) (by decide +kernel)) rfl (zd_dr dc_Mo_add 20 rfl))) ?_
  refine zm_ac (om_pk nt_aload (ok_aload_n (l := l) (B := B) (y := m_Mo_add) (pc := 43) (k := 0) rfl (zd_dr dc_Mo_add 21 rfl))) ?_
  refine zm_ac (ok_mgetf rfl (ok_getf (l := l) (B := B) (y := m_Mo_add) (pc := 44) hG (C := zR8) (T := zT8) (N := 21) (ci := 8) (k := 6) rfl zl8 (by decide) (List.mem_of_getElem? (i := 888) (by decide +kernel)) (zd_dr dc_Mo_add 22 rfl))) ?_
  refine zm_ac (om_pk nt_iload (ok_iload_n (l := l) (B := B) (y := m_Mo_add) (pc := 47) (k := 1) rfl (zd_dr dc_Mo_add 23 rfl))) ?_
  refine zm_ac (ok_miaload (ok_iaload (l := l) (B := B) (y := m_Mo_add) (pc := 48) hG (zd_dr dc_Mo_add 24 rfl))) ?_
  refine zm_ac (om_pk nt_aload (ok_aload_n (l := l) (B := B) (y := m_Mo_add) (pc := 49) (k := 0) rfl (zd_dr dc_Mo_add 25 rfl))) ?_
  refine zm_ac (ok_mgetf rfl (ok_getf (l := l) (B := B) (y := m_Mo_add) (pc := 50) hG (C := zR8) (T := zT8) (N := 21) (ci := 8) (k := 6) rfl zl8 (by decide) (List.mem_of_getElem? (i := 888) (by decide +kernel)) (zd_dr dc_Mo_add 26 rfl))) ?_
  refine zm_ac (om_pk nt_iload (ok_iload_n (l := l) (B := B) (y := m_Mo_add) (pc := 53) (k := 2) rfl (zd_dr dc_Mo_add 27 rfl))) ?_
  refine zm_ac (ok_miaload (ok_iaload (l := l) (B := B) (y := m_Mo_add) (pc := 54) hG (zd_dr dc_Mo_add 28 rfl))) ?_
  refine zm_ac (om_pk nt_icmp_le (ok_icmp_le (l := l) (B := B) (y := m_Mo_add) (pc := 55) (zd_dr dc_Mo_add 29 rfl) (by decide))) ?_
  refine zm_ac (om_pk nt_aload (ok_aload_n (l := l) (B := B) (y := m_Mo_add) (pc := 58) (k := 0) rfl (zd_dr dc_Mo_add 30 rfl))) ?_
  refine zm_ac (ok_mgetf rfl (ok_getf (l := l) (B := B) (y := m_Mo_add) (pc := 59) hG (C := zR8) (T := zT8) (N := 21) (ci := 8) (k := 6) rfl zl8 (by decide) (List.mem_of_getElem? (i := 888) (by decide +kernel)) (zd_dr dc_Mo_add 31 rfl))) ?_
  refine zm_ac (om_pk nt_iload (ok_iload_n (l := l) (B := B) (y := m_Mo_add) (pc := 62) (k := 1) rfl (zd_dr dc_Mo_add 32 rfl))) ?_
  refine zm_ac (ok_miaload (ok_iaload (l := l) (B := B) (y := m_Mo_add) (pc := 63) hG (zd_dr dc_Mo_add 33 rfl))) ?_
  refine zm_ac (om_pk nt_i2l (ok_i2l (l := l) (B := B) (y := m_Mo_add) (pc := 64) (zd_dr dc_Mo_add 34 rfl))) ?_
  refine zm_ac (om_pk nt_goto (ok_goto (l := l) (B := B) (y := m_Mo_add) (pc := 65) (zd_dr dc_Mo_add 35 rfl) (by decide))) ?_
  refine zm_ac (om_pk nt_aload (ok_aload_n (l := l) (B := B) (y := m_Mo_add) (pc := 68) (k := 0) rfl (zd_dr dc_Mo_add 36 rfl))) ?_
  refine zm_ac (ok_mgetf rfl (ok_getf (l := l) (B := B) (y := m_Mo_add) (pc := 69) hG (C := zR8) (T := zT8) (N := 21) (ci := 8) (k := 6) rfl zl8 (by decide) (List.mem_of_getElem? (i := 888) (by decide +kernel)) (zd_dr dc_Mo_add 37 rfl))) ?_
  refine zm_ac (om_pk nt_iload (ok_iload_n (l := l) (B := B) (y := m_Mo_add) (pc := 72) (k := 2) rfl (zd_dr dc_Mo_add 38 rfl))) ?_
  refine zm_ac (ok_miaload (ok_iaload (l := l) (B := B) (y := m_Mo_add) (pc := 73) hG (zd_dr dc_Mo_add 39 rfl))) ?_
  refine zm_ac (om_pk nt_i2l (ok_i2l (l := l) (B := B) (y := m_Mo_add) (pc := 74) (zd_dr dc_Mo_add 40 rfl))) ?_
  refine zm_ac (om_pk nt_lstore (ok_lstore (l := l) (B := B) (y := m_Mo_add) (pc := 75) (zd_dr dc_Mo_add 41 rfl) (by decide))) ?_
  refine zm_ac (om_pk nt_aload (ok_aload_n (l := l) (B := B) (y := m_Mo_add) (pc := 77) (k := 0) rfl (zd_dr dc_Mo_add 42 rfl))) ?_
  refine zm_ac (om_pk nt_iload (ok_iload_n (l := l) (B := B) (y := m_Mo_add) (pc := 78) (k := 1) rfl (zd_dr dc_Mo_add 43 rfl))) ?_
  refine zm_ac (ok_mcallv rfl (ok_callv (l := l) (B := B) (y := m_Mo_add) (pc := 79) hG (ci := 8) rfl cf_Mo_add_Mo_isZero rfl (List.mem_of_getElem? (i := 998) (by decide +kernel)) (List.mem_of_getElem? (i := 1000) (by decide +kernel)) (List.mem_of_getElem? (i := 31) (by decide +kernel)) (zd_dr dc_Mo_add 44 rfl))) ?_
  refine zm_ac (om_pk nt_if_eq (ok_if_eq (l := l) (B := B) (y := m_Mo_add) (pc := 82) (zd_dr dc_Mo_add 45 rfl) (by decide))) ?_
  refine zm_ac (om_pk nt_cl (ok_lconst (l := l) (B := B) (y := m_Mo_add) (pc := 85) (n := 1) (zd_dr dc_Mo_add 46 rfl) rfl)) ?_
  refine zm_ac (om_pk nt_goto (ok_goto (l := l) (B := B) (y := m_Mo_add) (pc := 86) (zd_dr dc_Mo_add 47 rfl) (by decide))) ?_
  refine zm_ac (om_pk nt_aload (ok_aload_n (l := l) (B := B) (y := m_Mo_add) (pc := 89) (k := 0) rfl (zd_dr dc_Mo_add 48 rfl))) ?_
  refine zm_ac (ok_mgetf rfl (ok_getf (l := l) (B := B) (y := m_Mo_add) (pc := 90) hG (C := zR8) (T := zT8) (N := 21) (ci := 8) (k := 4) rfl zl8 (by decide) (List.mem_of_getElem? (i := 886) (by decide +kernel)) (zd_dr dc_Mo_add 49 rfl))) ?_
  refine zm_ac (om_pk nt_iload (ok_iload_n (l := l) (B := B) (y := m_Mo_add) (pc := 93) (k := 1) rfl (zd_dr dc_Mo_add 50 rfl))) ?_
  refine zm_ac (ok_miaload (ok_iaload (l := l) (B := B) (y := m_Mo_add) (pc := 94) hG (zd_dr dc_Mo_add 51 rfl))) ?_
  refine zm_ac (om_pk nt_i2l (ok_i2l (l := l) (B := B) (y := m_Mo_add) (pc := 95) (zd_dr dc_Mo_add 52 rfl))) ?_
  refine zm_ac (om_pk nt_lload (ok_lload (l := l) (B := B) (y := m_Mo_add) (pc := 96) (zd_dr dc_Mo_add 53 rfl))) ?_
  refine zm_ac (om_pk nt_ladd (ok_ladd (l := l) (B := B) (y := m_Mo_add) (pc := 98) (zd_dr dc_Mo_add 54 rfl))) ?_
  refine zm_ac (om_pk nt_aload (ok_aload_n (l := l) (B := B) (y := m_Mo_add) (pc := 99) (k := 0) rfl (zd_dr dc_Mo_add 55 rfl))) ?_
  refine zm_ac (ok_mgetf rfl (ok_getf (l := l) (B := B) (y := m_Mo_add) (pc := 100) hG (C := zR8) (T := zT8) (N := 21) (ci := 8) (k := 6) rfl zl8 (by decide) (List.mem_of_getElem? (i := 888) (by decide +kernel)) (zd_dr dc_Mo_add 56 rfl))) ?_
  refine zm_ac (om_pk nt_iload (ok_iload_n (l := l) (B := B) (y := m_Mo_add) (pc := 103) (k := 1) rfl (zd_dr dc_Mo_add 57 rfl))) ?_
  refine zm_ac (ok_miaload (ok_iaload (l := l) (B := B) (y := m_Mo_add) (pc := 104) hG (zd_dr dc_Mo_add 58 rfl))) ?_
  refine zm_ac (om_pk nt_i2l (ok_i2l (l := l) (B := B) (y := m_Mo_add) (pc := 105) (zd_dr dc_Mo_add 59 rfl))) ?_
  refine zm_ac (om_pk nt_lsub (ok_lsub (l := l) (B := B) (y := m_Mo_add) (pc := 106) (zd_dr dc_Mo_add 60 rfl))) ?_
  refine zm_ac (om_pk nt_lstore (ok_lstore (l := l) (B := B) (y := m_Mo_add) (pc := 107) (zd_dr dc_Mo_add 61 rfl) (by decide))) ?_
  refine zm_ac (om_pk nt_aload (ok_aload_n (l := l) (B := B) (y := m_Mo_add) (pc := 109) (k := 0) rfl (zd_dr dc_Mo_add 62 rfl))) ?_
  refine zm_ac (om_pk nt_iload (ok_iload_n (l := l) (B := B) (y := m_Mo_add) (pc := 110) (k := 2) rfl (zd_dr dc_Mo_add 63 rfl))) ?_
  refine zm_ac (ok_mcallv rfl (ok_callv (l := l) (B := B) (y := m_Mo_add) (pc := 111) hG (ci := 8) rfl cf_Mo_add_Mo_isZero rfl (List.mem_of_getElem? (i := 998) (by decide +kernel)) (List.mem_of_getElem? (i := 1000) (by decide +kernel)) (List.mem_of_getElem? (i := 31) (by decide +kernel)) (zd_dr dc_Mo_add 64 rfl))) ?_
  refine zm_ac (om_pk nt_if_eq (ok_if_eq (l := l) (B := B) (y := m_Mo_add) (pc := 114) (zd_dr dc_Mo_add 65 rfl) (by decide))) ?_
  refine zm_ac (om_pk nt_cl (ok_lconst (l := l) (B := B) (y := m_Mo_add) (pc := 117) (n := 1) (zd_dr dc_Mo_add 66 rfl) rfl)) ?_
  refine zm_ac (om_pk nt_goto (ok_goto (l := l) (B := B) (y := m_Mo_add) (pc := 118) (zd_dr dc_Mo_add 67 rfl) (by decide))) ?_
  refine zm_ac (om_pk nt_aload (ok_aload_n (l := l) (B := B) (y := m_Mo_add) (pc := 121) (k := 0) rfl (zd_dr dc_Mo_add 68 rfl))) ?_
  refine zm_ac (ok_mgetf rfl (ok_getf (l := l) (B := B) (y := m_Mo_add) (pc := 122) hG (C := zR8) (T := zT8) (N := 21) (ci := 8) (k := 4) rfl zl8 (by decide) (List.mem_of_getElem? (i := 886) (by decide +kernel)) (zd_dr dc_Mo_add 69 rfl))) ?_
  refine zm_ac (om_pk nt_iload (ok_iload_n (l := l) (B := B) (y := m_Mo_add) (pc := 125) (k := 2) rfl (zd_dr dc_Mo_add 70 rfl))) ?_
  refine zm_ac (ok_miaload (ok_iaload (l := l) (B := B) (y := m_Mo_add) (pc := 126) hG (zd_dr dc_Mo_add 71 rfl))) ?_
  refine zm_ac (om_pk nt_i2l (ok_i2l (l := l) (B := B) (y := m_Mo_add) (pc := 127) (zd_dr dc_Mo_add 72 rfl))) ?_
  refine zm_ac (om_pk nt_lload (ok_lload (l := l) (B := B) (y := m_Mo_add) (pc := 128) (zd_dr dc_Mo_add 73 rfl))) ?_
  refine zm_ac (om_pk nt_ladd (ok_ladd (l := l) (B := B) (y := m_Mo_add) (pc := 130) (zd_dr dc_Mo_add 74 rfl))) ?_
  refine zm_ac (om_pk nt_aload (ok_aload_n (l := l) (B := B) (y := m_Mo_add) (pc := 131) (k := 0) rfl (zd_dr dc_Mo_add 75 rfl))) ?_
  refine zm_ac (ok_mgetf rfl (ok_getf (l := l) (B := B) (y := m_Mo_add) (pc := 132) hG (C := zR8) (T := zT8) (N := 21) (ci := 8) (k := 6) rfl zl8 (by decide) (List.mem_of_getElem? (i := 888) (by decide +kernel)) (zd_dr dc_Mo_add 76 rfl))) ?_
  refine zm_ac (om_pk nt_iload (ok_iload_n (l := l) (B := B) (y := m_Mo_add) (pc := 135) (k := 2) rfl (zd_dr dc_Mo_add 77 rfl))) ?_
  refine zm_ac (ok_miaload (ok_iaload (l := l) (B := B) (y := m_Mo_add) (pc := 136) hG (zd_dr dc_Mo_add 78 rfl))) ?_
  refine zm_ac (om_pk nt_i2l (ok_i2l (l := l) (B := B) (y := m_Mo_add) (pc := 137) (zd_dr dc_Mo_add 79 rfl))) ?_
  refine zm_ac (om_pk nt_lsub (ok_lsub (l := l) (B := B) (y := m_Mo_add) (pc := 138) (zd_dr dc_Mo_add 80 rfl))) ?_
  refine zm_ac (om_pk nt_lstore (ok_lstore (l := l) (B := B) (y := m_Mo_add) (pc := 139) (zd_dr dc_Mo_add 81 rfl) (by decide))) ?_
  refine zm_ac (om_pk nt_lload (ok_lload (l := l) (B := B) (y := m_Mo_add) (pc := 141) (zd_dr dc_Mo_add 82 rfl))) ?_
  refine zm_ac (om_pk nt_cl (ok_ldc2 (l := l) (B := B) (y := m_Mo_add) (pc := 143) hG (List.mem_of_getElem? (i := 1010) (by decide +kernel)) (zd_dr dc_Mo_add 83 rfl))) ?_
  refine zm_ac (om_pk nt_lcmp (ok_lcmp (l := l) (B := B) (y := m_Mo_add) (pc := 146) (zd_dr dc_Mo_add 84 rfl))) ?_
  refine zm_ac (om_pk nt_if_gt (ok_if_gt (l := l) (B := B) (y := m_Mo_add) (pc := 147) (zd_dr dc_Mo_add 85 rfl) (by decide))) ?_
  refine zm_ac (om_pk nt_lload (ok_lload (l := l) (B := B) (y := m_Mo_add) (pc := 150) (zd_dr dc_Mo_add 86 rfl))) ?_
  refine zm_ac (om_pk nt_cl (ok_ldc2 (l := l) (B := B) (y := m_Mo_add) (pc := 152) hG (List.mem_of_getElem? (i := 1010) (by decide +kernel)) (zd_dr dc_Mo_add 87 rfl))) ?_
  refine zm_ac (om_pk nt_lcmp (ok_lcmp (l := l) (B := B) (y := m_Mo_add) (pc := 155) (zd_dr dc_Mo_add 88 rfl))) ?_
  refine zm_ac (om_pk nt_if_le (ok_if_le (l := l) (B := B) (y := m_Mo_add) (pc := 156) (zd_dr dc_Mo_add 89 rfl) (by decide))) ?_
  refine zm_ac (om_pk nt_aload (ok_aload_n (l := l) (B := B) (y := m_Mo_add) (pc := 159) (k := 0) rfl (zd_dr dc_Mo_add 90 rfl))) ?_
  refine zm_ac (om_pk nt_ci (ok_iconst (l := l) (B := B) (y := m_Mo_add) (pc := 160) (n := (2)) (zd_dr dc_Mo_add 91 rfl) rfl)) ?_
  refine zm_ac (ok_mputi rfl (ok_putf (l := l) (B := B) (y := m_Mo_add) (pc := 161) hG (C := zR8) (T := zT8) (N := 21) (ci := 8) (k := 0) rfl zl8 zt8 (by decide) (List.mem_of_getElem? (i := 882) (by decide +kernel)) rfl (zd_dr dc_Mo_add 92 rfl))) ?_
  refine zm_ac (ok_mvret (ok_vret (l := l) (B := B) (y := m_Mo_add) (pc := 164) rfl (zd_dr dc_Mo_add 93 rfl))) ?_
  refine zm_ac (om_pk nt_aload (ok_aload_n (l := l) (B := B) (y := m_Mo_add) (pc := 165) (k := 0) rfl (zd_dr dc_Mo_add 94 rfl))) ?_
  refine zm_ac (om_pk nt_iload (ok_iload_n (l := l) (B := B) (y := m_Mo_add) (pc := 166) (k := 2) rfl (zd_dr dc_Mo_add 95 rfl))) ?_
  refine zm_ac (ok_mcallv rfl (ok_callv (l := l) (B := B) (y := m_Mo_add) (pc := 167) hG (ci := 8) rfl cf_Mo_add_Mo_isZero rfl (List.mem_of_getElem? (i := 998) (by decide +kernel)) (List.mem_of_getElem? (i := 1000) (by decide +kernel)) (List.mem_of_getElem? (i := 31) (by decide +kernel)) (zd_dr dc_Mo_add 96 rfl))) ?_
  refine zm_ac (om_pk nt_if_ne (ok_if_ne (l := l) (B := B) (y := m_Mo_add) (pc := 170) (zd_dr dc_Mo_add 97 rfl) (by decide))) ?_
  refine zm_ac (om_pk nt_aload (ok_aload_n (l := l) (B := B) (y := m_Mo_add) (pc := 173) (k := 0) rfl (zd_dr dc_Mo_add 98 rfl))) ?_
  refine zm_ac (ok_mgetf rfl (ok_getf (l := l) (B := B) (y := m_Mo_add) (pc := 174) hG (C := zR8) (T := zT8) (N := 21) (ci := 8) (k := 5) rfl zl8 (by decide) (List.mem_of_getElem? (i := 887) (by decide +kernel)) (zd_dr dc_Mo_add 99 rfl))) ?_
  refine zm_ac (om_pk nt_iload (ok_iload_n (l := l) (B := B) (y := m_Mo_add) (pc := 177) (k := 2) rfl (zd_dr dc_Mo_add 100 rfl))) ?_
  refine zm_ac (ok_mbaload (ok_baload (l := l) (B := B) (y := m_Mo_add) (pc := 178) hG (zd_dr dc_Mo_add 101 rfl))) ?_
  refine zm_ac (om_pk nt_iload (ok_iload (l := l) (B := B) (y := m_Mo_add) (pc := 179) (zd_dr dc_Mo_add 102 rfl))) ?_
  refine zm_ac (om_pk nt_icmp_eq (ok_icmp_eq (l := l) (B := B) (y := m_Mo_add) (pc := 181) (zd_dr dc_Mo_add 103 rfl) (by decide))) ?_
  refine zm_ac (om_pk nt_ci (ok_iconst (l := l) (B := B) (y := m_Mo_add) (pc := 184) (n := (1)) (zd_dr dc_Mo_add 104 rfl) rfl)) ?_
  refine zm_ac (om_pk nt_goto (ok_goto (l := l) (B := B) (y := m_Mo_add) (pc := 185) (zd_dr dc_Mo_add 105 rfl) (by decide))) ?_
  refine zm_ac (om_pk nt_ci (ok_iconst (l := l) (B := B) (y := m_Mo_add) (pc := 188) (n := (0)) (zd_dr dc_Mo_add 106 rfl) rfl)) ?_
  refine zm_ac (om_pk nt_istore (ok_istore (l := l) (B := B) (y := m_Mo_add) (pc := 189) (zd_dr dc_Mo_add 107 rfl) (by decide))) ?_
  refine zm_ac (om_pk nt_aload (ok_aload_n (l := l) (B := B) (y := m_Mo_add) (pc := 191) (k := 0) rfl (zd_dr dc_Mo_add 108 rfl))) ?_
  refine zm_ac (om_pk nt_iload (ok_iload_n (l := l) (B := B) (y := m_Mo_add) (pc := 192) (k := 1) rfl (zd_dr dc_Mo_add 109 rfl))) ?_
  refine zm_ac (ok_mcallv rfl (ok_callv (l := l) (B := B) (y := m_Mo_add) (pc := 193) hG (ci := 8) rfl cf_Mo_add_Mo_isZero rfl (List.mem_of_getElem? (i := 998) (by decide +kernel)) (List.mem_of_getElem? (i := 1000) (by decide +kernel)) (List.mem_of_getElem? (i := 31) (by decide +kernel)) (zd_dr dc_Mo_add 110 rfl))) ?_
  refine zm_ac (om_pk nt_if_ne (ok_if_ne (l := l) (B := B) (y := m_Mo_add) (pc := 196) (zd_dr dc_Mo_add 111 rfl) (by decide))) ?_
  refine zm_ac (om_pk nt_aload (ok_aload_n (l := l) (B := B) (y := m_Mo_add) (pc := 199) (k := 0) rfl (zd_dr dc_Mo_add 112 rfl))) ?_
  refine zm_ac (om_pk nt_iload (ok_iload_n (l := l) (B := B) (y := m_Mo_add) (pc := 200) (k := 2) rfl (zd_dr dc_Mo_add 113 rfl))) ?_
  refine zm_ac (ok_mcallv rfl (ok_callv (l := l) (B := B) (y := m_Mo_add) (pc := 201) hG (ci := 8) rfl cf_Mo_add_Mo_isZero rfl (List.mem_of_getElem? (i := 998) (by decide +kernel)) (List.mem_of_getElem? (i := 1000) (by decide +kernel)) (List.mem_of_getElem? (i := 31) (by decide +kernel)) (zd_dr dc_Mo_add 114 rfl))) ?_
  refine zm_ac (om_pk nt_if_ne (ok_if_ne (l := l) (B := B) (y := m_Mo_add) (pc := 204) (zd_dr dc_Mo_add 115 rfl) (by decide))) ?_
  refine zm_ac (om_pk nt_aload (ok_aload_n (l := l) (B := B) (y := m_Mo_add) (pc := 207) (k := 0) rfl (zd_dr dc_Mo_add 116 rfl))) ?_
  refine zm_ac (ok_mgetf rfl (ok_getf (l := l) (B := B) (y := m_Mo_add) (pc := 208) hG (C := zR8) (T := zT8) (N := 21) (ci := 8) (k := 5) rfl zl8 (by decide) (List.mem_of_getElem? (i := 887) (by decide +kernel)) (zd_dr dc_Mo_add 117 rfl))) ?_
  refine zm_ac (om_pk nt_iload (ok_iload_n (l := l) (B := B) (y := m_Mo_add) (pc := 211) (k := 1) rfl (zd_dr dc_Mo_add 118 rfl))) ?_
  refine zm_ac (ok_mbaload (ok_baload (l := l) (B := B) (y := m_Mo_add) (pc := 212) hG (zd_dr dc_Mo_add 119 rfl))) ?_
  refine zm_ac (om_pk nt_iload (ok_iload (l := l) (B := B) (y := m_Mo_add) (pc := 213) (zd_dr dc_Mo_add 120 rfl))) ?_
  refine zm_ac (om_pk nt_icmp_ne (ok_icmp_ne (l := l) (B := B) (y := m_Mo_add) (pc := 215) (zd_dr dc_Mo_add 121 rfl) (by decide))) ?_
  refine zm_ac (om_pk nt_ci (ok_iconst (l := l) (B := B) (y := m_Mo_add) (pc := 218) (n := (1)) (zd_dr dc_Mo_add 122 rfl) rfl)) ?_
  refine zm_ac (om_pk nt_goto (ok_goto (l := l) (B := B) (y := m_Mo_add) (pc := 219) (zd_dr dc_Mo_add 123 rfl) (by decide))) ?_
  refine zm_ac (om_pk nt_ci (ok_iconst (l := l) (B := B) (y := m_Mo_add) (pc := 222) (n := (0)) (zd_dr dc_Mo_add 124 rfl) rfl)) ?_
  refine zm_ac (om_pk nt_istore (ok_istore (l := l) (B := B) (y := m_Mo_add) (pc := 223) (zd_dr dc_Mo_add 125 rfl) (by decide))) ?_
  refine zm_ac (om_pk nt_iload (ok_iload (l := l) (B := B) (y := m_Mo_add) (pc := 225) (zd_dr dc_Mo_add 126 rfl))) ?_
  refine zm_ac (om_pk nt_if_ne (ok_if_ne (l := l) (B := B) (y := m_Mo_add) (pc := 227) (zd_dr dc_Mo_add 127 rfl) (by decide))) ?_
  refine zm_ac (om_pk nt_aload (ok_aload_n (l := l) (B := B) (y := m_Mo_add) (pc := 230) (k := 0) rfl (zd_dr dc_Mo_add 128 rfl))) ?_
  refine zm_ac (om_pk nt_iload (ok_iload_n (l := l) (B := B) (y := m_Mo_add) (pc := 231) (k := 1) rfl (zd_dr dc_Mo_add 129 rfl))) ?_
  refine zm_ac (om_pk nt_iload (ok_iload_n (l := l) (B := B) (y := m_Mo_add) (pc := 232) (k := 2) rfl (zd_dr dc_Mo_add 130 rfl))) ?_
  refine zm_ac (ok_mcallv rfl (ok_callv (l := l) (B := B) (y := m_Mo_add) (pc := 233) hG (ci := 8) rfl cf_Mo_add_Mo_compareSizes rfl (List.mem_of_getElem? (i := 1002) (by decide +kernel)) (List.mem_of_getElem? (i := 1004) (by decide +kernel)) (List.mem_of_getElem? (i := 32) (by decide +kernel)) (zd_dr dc_Mo_add 131 rfl))) ?_
  refine zm_ac (om_pk nt_if_ge (ok_if_ge (l := l) (B := B) (y := m_Mo_add) (pc := 236) (zd_dr dc_Mo_add 132 rfl) (by decide))) ?_
  refine zm_ac (om_pk nt_ci (ok_iconst (l := l) (B := B) (y := m_Mo_add) (pc := 239) (n := (1)) (zd_dr dc_Mo_add 133 rfl) rfl)) ?_
  refine zm_ac (om_pk nt_goto (ok_goto (l := l) (B := B) (y := m_Mo_add) (pc := 240) (zd_dr dc_Mo_add 134 rfl) (by decide))) ?_
  refine zm_ac (om_pk nt_ci (ok_iconst (l := l) (B := B) (y := m_Mo_add) (pc := 243) (n := (0)) (zd_dr dc_Mo_add 135 rfl) rfl)) ?_
  refine zm_ac (om_pk nt_istore (ok_istore (l := l) (B := B) (y := m_Mo_add) (pc := 244) (zd_dr dc_Mo_add 136 rfl) (by decide))) ?_
  refine zm_ac (om_pk nt_iload (ok_iload (l := l) (B := B) (y := m_Mo_add) (pc := 246) (zd_dr dc_Mo_add 137 rfl))) ?_
  refine zm_ac (om_pk nt_if_eq (ok_if_eq (l := l) (B := B) (y := m_Mo_add) (pc := 248) (zd_dr dc_Mo_add 138 rfl) (by decide))) ?_
  refine zm_ac (om_pk nt_iload (ok_iload_n (l := l) (B := B) (y := m_Mo_add) (pc := 251) (k := 2) rfl (zd_dr dc_Mo_add 139 rfl))) ?_
  refine zm_ac (om_pk nt_goto (ok_goto (l := l) (B := B) (y := m_Mo_add) (pc := 252) (zd_dr dc_Mo_add 140 rfl) (by decide))) ?_
  refine zm_ac (om_pk nt_iload (ok_iload_n (l := l) (B := B) (y := m_Mo_add) (pc := 255) (k := 1) rfl (zd_dr dc_Mo_add 141 rfl))) ?_
  refine zm_ac (om_pk nt_istore (ok_istore (l := l) (B := B) (y := m_Mo_add) (pc := 256) (zd_dr dc_Mo_add 142 rfl) (by decide))) ?_
  refine zm_ac (om_pk nt_iload (ok_iload (l := l) (B := B) (y := m_Mo_add) (pc := 258) (zd_dr dc_Mo_add 143 rfl))) ?_
  refine zm_ac (om_pk nt_if_eq (ok_if_eq (l := l) (B := B) (y := m_Mo_add) (pc := 260) (zd_dr dc_Mo_add 144 rfl) (by decide))) ?_
  refine zm_ac (om_pk nt_iload (ok_iload_n (l := l) (B := B) (y := m_Mo_add) (pc := 263) (k := 1) rfl (zd_dr dc_Mo_add 145 rfl))) ?_
  refine zm_ac (om_pk nt_goto (ok_goto (l := l) (B := B) (y := m_Mo_add) (pc := 264) (zd_dr dc_Mo_add 146 rfl) (by decide))) ?_
  refine zm_ac (om_pk nt_iload (ok_iload_n (l := l) (B := B) (y := m_Mo_add) (pc := 267) (k := 2) rfl (zd_dr dc_Mo_add 147 rfl))) ?_
  refine zm_ac (om_pk nt_istore (ok_istore (l := l) (B := B) (y := m_Mo_add) (pc := 268) (zd_dr dc_Mo_add 148 rfl) (by decide))) ?_
  refine zm_ac (om_pk nt_lload (ok_lload (l := l) (B := B) (y := m_Mo_add) (pc := 270) (zd_dr dc_Mo_add 149 rfl))) ?_
  refine zm_ac (om_pk nt_lload (ok_lload (l := l) (B := B) (y := m_Mo_add) (pc := 272) (zd_dr dc_Mo_add 150 rfl))) ?_
  refine zm_ac (om_pk nt_lcmp (ok_lcmp (l := l) (B := B) (y := m_Mo_add) (pc := 274) (zd_dr dc_Mo_add 151 rfl))) ?_
  refine zm_ac (om_pk nt_if_le (ok_if_le (l := l) (B := B) (y := m_Mo_add) (pc := 275) (zd_dr dc_Mo_add 152 rfl) (by decide))) ?_
  refine zm_ac (om_pk nt_lload (ok_lload (l := l) (B := B) (y := m_Mo_add) (pc := 278) (zd_dr dc_Mo_add 153 rfl))) ?_
  refine zm_ac (om_pk nt_goto (ok_goto (l := l) (B := B) (y := m_Mo_add) (pc := 280) (zd_dr dc_Mo_add 154 rfl) (by decide))) ?_
  refine zm_ac (om_pk nt_lload (ok_lload (l := l) (B := B) (y := m_Mo_add) (pc := 283) (zd_dr dc_Mo_add 155 rfl))) ?_
  refine zm_ac (om_pk nt_l2i (ok_l2i (l := l) (B := B) (y := m_Mo_add) (pc := 285) (zd_dr dc_Mo_add 156 rfl))) ?_
  refine zm_ac (om_pk nt_ci (ok_iconst (l := l) (B := B) (y := m_Mo_add) (pc := 286) (n := (1)) (zd_dr dc_Mo_add 157 rfl) rfl)) ?_
  refine zm_ac (om_pk nt_iadd (ok_iadd (l := l) (B := B) (y := m_Mo_add) (pc := 287) (zd_dr dc_Mo_add 158 rfl))) ?_
  refine zm_ac (om_pk nt_istore (ok_istore (l := l) (B := B) (y := m_Mo_add) (pc := 288) (zd_dr dc_Mo_add 159 rfl) (by decide))) ?_
  refine zm_ac (om_pk nt_ci (ok_iconst (l := l) (B := B) (y := m_Mo_add) (pc := 290) (n := (0)) (zd_dr dc_Mo_add 160 rfl) rfl)) ?_
  refine zm_ac (om_pk nt_istore (ok_istore (l := l) (B := B) (y := m_Mo_add) (pc := 291) (zd_dr dc_Mo_add 161 rfl) (by decide))) ?_
  refine zm_ac (om_pk nt_ci (ok_iconst (l := l) (B := B) (y := m_Mo_add) (pc := 293) (n := (0)) (zd_dr dc_Mo_add 162 rfl) rfl)) ?_
  refine zm_ac (om_pk nt_istore (ok_istore (l := l) (B := B) (y := m_Mo_add) (pc := 294) (zd_dr dc_Mo_add 163 rfl) (by decide))) ?_
  refine zm_ac (om_pk nt_iload (ok_iload (l := l) (B := B) (y := m_Mo_add) (pc := 296) (zd_dr dc_Mo_add 164 rfl))) ?_
  refine zm_ac (om_pk nt_iload (ok_iload (l := l) (B := B) (y := m_Mo_add) (pc := 298) (zd_dr dc_Mo_add 165 rfl))) ?_
  refine zm_ac (om_pk nt_icmp_ge (ok_icmp_ge (l := l) (B := B) (y := m_Mo_add) (pc := 300) (zd_dr dc_Mo_add 166 rfl) (by decide))) ?_
  refine zm_ac (om_pk nt_aload (ok_aload_n (l := l) (B := B) (y := m_Mo_add) (pc := 303) (k := 0) rfl (zd_dr dc_Mo_add 167 rfl))) ?_
  refine zm_ac (om_pk nt_iload (ok_iload (l := l) (B := B) (y := m_Mo_add) (pc := 304) (zd_dr dc_Mo_add 168 rfl))) ?_
  refine zm_ac (om_pk nt_lload (ok_lload (l := l) (B := B) (y := m_Mo_add) (pc := 306) (zd_dr dc_Mo_add 169 rfl))) ?_
  refine zm_ac (om_pk nt_iload (ok_iload (l := l) (B := B) (y := m_Mo_add) (pc := 308) (zd_dr dc_Mo_add 170 rfl))) ?_
  refine zm_ac (ok_mcallv rfl (ok_callv (l := l) (B := B) (y := m_Mo_add) (pc := 310) hG (ci := 8) rfl cf_Mo_add_Mo_figure rfl (List.mem_of_getElem? (i := 1011) (by decide +kernel)) (List.mem_of_getElem? (i := 1013) (by decide +kernel)) (List.mem_of_getElem? (i := 33) (by decide +kernel)) (zd_dr dc_Mo_add 171 rfl))) ?_
  refine zm_ac (om_pk nt_iload (ok_iload (l := l) (B := B) (y := m_Mo_add) (pc := 313) (zd_dr dc_Mo_add 172 rfl))) ?_
  refine zm_ac (om_pk nt_if_eq (ok_if_eq (l := l) (B := B) (y := m_Mo_add) (pc := 315) (zd_dr dc_Mo_add 173 rfl) (by decide))) ?_
  refine zm_ac (om_pk nt_aload (ok_aload_n (l := l) (B := B) (y := m_Mo_add) (pc := 318) (k := 0) rfl (zd_dr dc_Mo_add 174 rfl))) ?_
  refine zm_ac (om_pk nt_iload (ok_iload (l := l) (B := B) (y := m_Mo_add) (pc := 319) (zd_dr dc_Mo_add 175 rfl))) ?_
  refine zm_ac (om_pk nt_lload (ok_lload (l := l) (B := B) (y := m_Mo_add) (pc := 321) (zd_dr dc_Mo_add 176 rfl))) ?_
  refine zm_ac (om_pk nt_iload (ok_iload (l := l) (B := B) (y := m_Mo_add) (pc := 323) (zd_dr dc_Mo_add 177 rfl))) ?_
  refine zm_ac (ok_mcallv rfl (ok_callv (l := l) (B := B) (y := m_Mo_add) (pc := 325) hG (ci := 8) rfl cf_Mo_add_Mo_figure rfl (List.mem_of_getElem? (i := 1011) (by decide +kernel)) (List.mem_of_getElem? (i := 1013) (by decide +kernel)) (List.mem_of_getElem? (i := 33) (by decide +kernel)) (zd_dr dc_Mo_add 178 rfl))) ?_
  refine zm_ac (om_pk nt_goto (ok_goto (l := l) (B := B) (y := m_Mo_add) (pc := 328) (zd_dr dc_Mo_add 179 rfl) (by decide))) ?_
  refine zm_ac (om_pk nt_aload (ok_aload_n (l := l) (B := B) (y := m_Mo_add) (pc := 331) (k := 0) rfl (zd_dr dc_Mo_add 180 rfl))) ?_
  refine zm_ac (om_pk nt_iload (ok_iload (l := l) (B := B) (y := m_Mo_add) (pc := 332) (zd_dr dc_Mo_add 181 rfl))) ?_
  refine zm_ac (om_pk nt_lload (ok_lload (l := l) (B := B) (y := m_Mo_add) (pc := 334) (zd_dr dc_Mo_add 182 rfl))) ?_
  refine zm_ac (om_pk nt_iload (ok_iload (l := l) (B := B) (y := m_Mo_add) (pc := 336) (zd_dr dc_Mo_add 183 rfl))) ?_
  refine zm_ac (ok_mcallv rfl (ok_callv (l := l) (B := B) (y := m_Mo_add) (pc := 338) hG (ci := 8) rfl cf_Mo_add_Mo_figure rfl (List.mem_of_getElem? (i := 1011) (by decide +kernel)) (List.mem_of_getElem? (i := 1013) (by decide +kernel)) (List.mem_of_getElem? (i := 33) (by decide +kernel)) (zd_dr dc_Mo_add 184 rfl))) ?_
  refine zm_ac (om_pk nt_ineg (ok_ineg (l := l) (B := B) (y := m_Mo_add) (pc := 341) (zd_dr dc_Mo_add 185 rfl))) ?_
  refine zm_ac (om_pk nt_iadd (ok_iadd (l := l) (B := B) (y := m_Mo_add) (pc := 342) (zd_dr dc_Mo_add 186 rfl))) ?_
  refine zm_ac (om_pk nt_iload (ok_iload (l := l) (B := B) (y := m_Mo_add) (pc := 343) (zd_dr dc_Mo_add 187 rfl))) ?_
  refine zm_ac (om_pk nt_iadd (ok_iadd (l := l) (B := B) (y := m_Mo_add) (pc := 345) (zd_dr dc_Mo_add 188 rfl))) ?_
  refine zm_ac (om_pk nt_istore (ok_istore (l := l) (B := B) (y := m_Mo_add) (pc := 346) (zd_dr dc_Mo_add 189 rfl) (by decide))) ?_
  refine zm_ac (om_pk nt_aload (ok_aload_n (l := l) (B := B) (y := m_Mo_add) (pc := 348) (k := 0) rfl (zd_dr dc_Mo_add 190 rfl))) ?_
  refine zm_ac (ok_mgetf rfl (ok_getf (l := l) (B := B) (y := m_Mo_add) (pc := 349) hG (C := zR8) (T := zT8) (N := 21) (ci := 8) (k := 7) rfl zl8 (by decide) (List.mem_of_getElem? (i := 889) (by decide +kernel)) (zd_dr dc_Mo_add 191 rfl))) ?_
  refine zm_ac (om_pk nt_iload (ok_iload (l := l) (B := B) (y := m_Mo_add) (pc := 352) (zd_dr dc_Mo_add 192 rfl))) ?_
  refine zm_ac (om_pk nt_ci (ok_iconst (l := l) (B := B) (y := m_Mo_add) (pc := 354) (n := (1)) (zd_dr dc_Mo_add 193 rfl) rfl)) ?_
  refine zm_ac (om_pk nt_isub (ok_isub (l := l) (B := B) (y := m_Mo_add) (pc := 355) (zd_dr dc_Mo_add 194 rfl))) ?_
  refine zm_ac (om_pk nt_iload (ok_iload (l := l) (B := B) (y := m_Mo_add) (pc := 356) (zd_dr dc_Mo_add 195 rfl))) ?_
  refine zm_ac (om_pk nt_isub (ok_isub (l := l) (B := B) (y := m_Mo_add) (pc := 358) (zd_dr dc_Mo_add 196 rfl))) ?_
  refine zm_ac (om_pk nt_iload (ok_iload (l := l) (B := B) (y := m_Mo_add) (pc := 359) (zd_dr dc_Mo_add 197 rfl))) ?_
  refine zm_ac (om_pk nt_ci (ok_bipush (l := l) (B := B) (y := m_Mo_add) (pc := 361) (n := (10)) (zd_dr dc_Mo_add 198 rfl) rfl)) ?_
  refine zm_ac (om_pk nt_iadd (ok_iadd (l := l) (B := B) (y := m_Mo_add) (pc := 363) (zd_dr dc_Mo_add 199 rfl))) ?_
  refine zm_ac (om_pk nt_ci (ok_bipush (l := l) (B := B) (y := m_Mo_add) (pc := 364) (n := (10)) (zd_dr dc_Mo_add 200 rfl) rfl)) ?_
  refine zm_ac (om_pk nt_irem (ok_irem (l := l) (B := B) (y := m_Mo_add) (pc := 366) (zd_dr dc_Mo_add 201 rfl))) ?_
  refine zm_ac (ok_miastore (ok_iastore (l := l) (B := B) (y := m_Mo_add) (pc := 367) hG (zd_dr dc_Mo_add 202 rfl))) ?_
  refine zm_ac (om_pk nt_iload (ok_iload (l := l) (B := B) (y := m_Mo_add) (pc := 368) (zd_dr dc_Mo_add 203 rfl))) ?_
  refine zm_ac (om_pk nt_if_ge (ok_if_ge (l := l) (B := B) (y := m_Mo_add) (pc := 370) (zd_dr dc_Mo_add 204 rfl) (by decide))) ?_
  refine zm_ac (om_pk nt_ci (ok_iconst (l := l) (B := B) (y := m_Mo_add) (pc := 373) (n := (-1)) (zd_dr dc_Mo_add 205 rfl) rfl)) ?_
  refine zm_ac (om_pk nt_goto (ok_goto (l := l) (B := B) (y := m_Mo_add) (pc := 374) (zd_dr dc_Mo_add 206 rfl) (by decide))) ?_
  refine zm_ac (om_pk nt_iload (ok_iload (l := l) (B := B) (y := m_Mo_add) (pc := 377) (zd_dr dc_Mo_add 207 rfl))) ?_
  refine zm_ac (om_pk nt_ci (ok_bipush (l := l) (B := B) (y := m_Mo_add) (pc := 379) (n := (10)) (zd_dr dc_Mo_add 208 rfl) rfl)) ?_
  refine zm_ac (om_pk nt_idiv (ok_idiv (l := l) (B := B) (y := m_Mo_add) (pc := 381) (zd_dr dc_Mo_add 209 rfl))) ?_
  refine zm_ac (om_pk nt_istore (ok_istore (l := l) (B := B) (y := m_Mo_add) (pc := 382) (zd_dr dc_Mo_add 210 rfl) (by decide))) ?_
  refine zm_ac (om_pk nt_iinc (ok_iinc (l := l) (B := B) (y := m_Mo_add) (pc := 384) (zd_dr dc_Mo_add 211 rfl) (by decide) rfl)) ?_
  refine zm_ac (om_pk nt_goto (ok_goto (l := l) (B := B) (y := m_Mo_add) (pc := 387) (zd_dr dc_Mo_add 212 rfl) (by decide))) ?_
  refine zm_ac (om_pk nt_aload (ok_aload_n (l := l) (B := B) (y := m_Mo_add) (pc := 390) (k := 0) rfl (zd_dr dc_Mo_add 213 rfl))) ?_
  refine zm_ac (om_pk nt_iload (ok_iload (l := l) (B := B) (y := m_Mo_add) (pc := 391) (zd_dr dc_Mo_add 214 rfl))) ?_
  refine zm_ac (ok_mputi rfl (ok_putf (l := l) (B := B) (y := m_Mo_add) (pc := 393) hG (C := zR8) (T := zT8) (N := 21) (ci := 8) (k := 8) rfl zl8 zt8 (by decide) (List.mem_of_getElem? (i := 890) (by decide +kernel)) rfl (zd_dr dc_Mo_add 215 rfl))) ?_
  refine zm_ac (om_pk nt_aload (ok_aload_n (l := l) (B := B) (y := m_Mo_add) (pc := 396) (k := 0) rfl (zd_dr dc_Mo_add 216 rfl))) ?_
  refine zm_ac (om_pk nt_lload (ok_lload (l := l) (B := B) (y := m_Mo_add) (pc := 397) (zd_dr dc_Mo_add 217 rfl))) ?_
  refine zm_ac (ok_mputl rfl (ok_putf (l := l) (B := B) (y := m_Mo_add) (pc := 399) hG (C := zR8) (T := zT8) (N := 21) (ci := 8) (k := 9) rfl zl8 zt8 (by decide) (List.mem_of_getElem? (i := 891) (by decide +kernel)) rfl (zd_dr dc_Mo_add 218 rfl))) ?_
  refine zm_ac (om_pk nt_aload (ok_aload_n (l := l) (B := B) (y := m_Mo_add) (pc := 402) (k := 0) rfl (zd_dr dc_Mo_add 219 rfl))) ?_
  refine zm_ac (om_pk nt_ci (ok_iconst (l := l) (B := B) (y := m_Mo_add) (pc := 403) (n := (0)) (zd_dr dc_Mo_add 220 rfl) rfl)) ?_
  refine zm_ac (ok_mputb rfl (ok_putf (l := l) (B := B) (y := m_Mo_add) (pc := 404) hG (C := zR8) (T := zT8) (N := 21) (ci := 8) (k := 10) rfl zl8 zt8 (by decide) (List.mem_of_getElem? (i := 892) (by decide +kernel)) rfl (zd_dr dc_Mo_add 221 rfl))) ?_
  refine zm_ac (om_pk nt_aload (ok_aload_n (l := l) (B := B) (y := m_Mo_add) (pc := 407) (k := 0) rfl (zd_dr dc_Mo_add 222 rfl))) ?_
  refine zm_ac (om_pk nt_aload (ok_aload_n (l := l) (B := B) (y := m_Mo_add) (pc := 408) (k := 0) rfl (zd_dr dc_Mo_add 223 rfl))) ?_
  refine zm_ac (om_pk nt_iload (ok_iload_n (l := l) (B := B) (y := m_Mo_add) (pc := 409) (k := 1) rfl (zd_dr dc_Mo_add 224 rfl))) ?_
  refine zm_ac (ok_mcallv rfl (ok_callv (l := l) (B := B) (y := m_Mo_add) (pc := 410) hG (ci := 8) rfl cf_Mo_add_Mo_isZero rfl (List.mem_of_getElem? (i := 998) (by decide +kernel)) (List.mem_of_getElem? (i := 1000) (by decide +kernel)) (List.mem_of_getElem? (i := 31) (by decide +kernel)) (zd_dr dc_Mo_add 225 rfl))) ?_
  refine zm_ac (om_pk nt_if_eq (ok_if_eq (l := l) (B := B) (y := m_Mo_add) (pc := 413) (zd_dr dc_Mo_add 226 rfl) (by decide))) ?_
  refine zm_ac (om_pk nt_iload (ok_iload (l := l) (B := B) (y := m_Mo_add) (pc := 416) (zd_dr dc_Mo_add 227 rfl))) ?_
  refine zm_ac (om_pk nt_goto (ok_goto (l := l) (B := B) (y := m_Mo_add) (pc := 418) (zd_dr dc_Mo_add 228 rfl) (by decide))) ?_
  refine zm_ac (om_pk nt_aload (ok_aload_n (l := l) (B := B) (y := m_Mo_add) (pc := 421) (k := 0) rfl (zd_dr dc_Mo_add 229 rfl))) ?_
  refine zm_ac (om_pk nt_iload (ok_iload_n (l := l) (B := B) (y := m_Mo_add) (pc := 422) (k := 2) rfl (zd_dr dc_Mo_add 230 rfl))) ?_
  refine zm_ac (ok_mcallv rfl (ok_callv (l := l) (B := B) (y := m_Mo_add) (pc := 423) hG (ci := 8) rfl cf_Mo_add_Mo_isZero rfl (List.mem_of_getElem? (i := 998) (by decide +kernel)) (List.mem_of_getElem? (i := 1000) (by decide +kernel)) (List.mem_of_getElem? (i := 31) (by decide +kernel)) (zd_dr dc_Mo_add 231 rfl))) ?_
  refine zm_ac (om_pk nt_if_eq (ok_if_eq (l := l) (B := B) (y := m_Mo_add) (pc := 426) (zd_dr dc_Mo_add 232 rfl) (by decide))) ?_
  refine zm_ac (om_pk nt_aload (ok_aload_n (l := l) (B := B) (y := m_Mo_add) (pc := 429) (k := 0) rfl (zd_dr dc_Mo_add 233 rfl))) ?_
  refine zm_ac (ok_mgetf rfl (ok_getf (l := l) (B := B) (y := m_Mo_add) (pc := 430) hG (C := zR8) (T := zT8) (N := 21) (ci := 8) (k := 5) rfl zl8 (by decide) (List.mem_of_getElem? (i := 887) (by decide +kernel)) (zd_dr dc_Mo_add 234 rfl))) ?_
  refine zm_ac (om_pk nt_iload (ok_iload_n (l := l) (B := B) (y := m_Mo_add) (pc := 433) (k := 1) rfl (zd_dr dc_Mo_add 235 rfl))) ?_
  refine zm_ac (ok_mbaload (ok_baload (l := l) (B := B) (y := m_Mo_add) (pc := 434) hG (zd_dr dc_Mo_add 236 rfl))) ?_
  refine zm_ac (om_pk nt_goto (ok_goto (l := l) (B := B) (y := m_Mo_add) (pc := 435) (zd_dr dc_Mo_add 237 rfl) (by decide))) ?_
  refine zm_ac (om_pk nt_iload (ok_iload (l := l) (B := B) (y := m_Mo_add) (pc := 438) (zd_dr dc_Mo_add 238 rfl))) ?_
  refine zm_ac (om_pk nt_if_eq (ok_if_eq (l := l) (B := B) (y := m_Mo_add) (pc := 440) (zd_dr dc_Mo_add 239 rfl) (by decide))) ?_
  refine zm_ac (om_pk nt_iload (ok_iload (l := l) (B := B) (y := m_Mo_add) (pc := 443) (zd_dr dc_Mo_add 240 rfl))) ?_
  refine zm_ac (om_pk nt_goto (ok_goto (l := l) (B := B) (y := m_Mo_add) (pc := 445) (zd_dr dc_Mo_add 241 rfl) (by decide))) ?_
  refine zm_ac (om_pk nt_aload (ok_aload_n (l := l) (B := B) (y := m_Mo_add) (pc := 448) (k := 0) rfl (zd_dr dc_Mo_add 242 rfl))) ?_
  refine zm_ac (ok_mgetf rfl (ok_getf (l := l) (B := B) (y := m_Mo_add) (pc := 449) hG (C := zR8) (T := zT8) (N := 21) (ci := 8) (k := 5) rfl zl8 (by decide) (List.mem_of_getElem? (i := 887) (by decide +kernel)) (zd_dr dc_Mo_add 243 rfl))) ?_
  refine zm_ac (om_pk nt_iload (ok_iload_n (l := l) (B := B) (y := m_Mo_add) (pc := 452) (k := 1) rfl (zd_dr dc_Mo_add 244 rfl))) ?_
  refine zm_ac (ok_mbaload (ok_baload (l := l) (B := B) (y := m_Mo_add) (pc := 453) hG (zd_dr dc_Mo_add 245 rfl))) ?_
  refine zm_ac (ok_mputb rfl (ok_putf (l := l) (B := B) (y := m_Mo_add) (pc := 454) hG (C := zR8) (T := zT8) (N := 21) (ci := 8) (k := 11) rfl zl8 zt8 (by decide) (List.mem_of_getElem? (i := 893) (by decide +kernel)) rfl (zd_dr dc_Mo_add 246 rfl))) ?_
  refine zm_ac (om_pk nt_aload (ok_aload_n (l := l) (B := B) (y := m_Mo_add) (pc := 457) (k := 0) rfl (zd_dr dc_Mo_add 247 rfl))) ?_
  refine zm_ac (om_pk nt_iload (ok_iload_n (l := l) (B := B) (y := m_Mo_add) (pc := 458) (k := 3) rfl (zd_dr dc_Mo_add 248 rfl))) ?_
  refine zm_ac (ok_mcallv rfl (ok_callv (l := l) (B := B) (y := m_Mo_add) (pc := 459) hG (ci := 8) rfl cf_Mo_add_Mo_store rfl (List.mem_of_getElem? (i := 980) (by decide +kernel)) (List.mem_of_getElem? (i := 982) (by decide +kernel)) (List.mem_of_getElem? (i := 29) (by decide +kernel)) (zd_dr dc_Mo_add 249 rfl))) ?_
  refine zm_ac (ok_mvret (ok_vret (l := l) (B := B) (y := m_Mo_add) (pc := 462) rfl (zd_dr dc_Mo_add 250 rfl))) ?_
  exact zm_an
def dl_Mo_times : List (Nat × Instr × Nat) := [(0, .aload_n 0, 1), (1, .getfield 45, 3), (4, .aload_n 0, 1), (5, .getfield 16, 3), (8, .iload_n 1, 1), (9, .iaload, 1), (10, .iadd, 1), (11, .istore_n 2, 1), (12, .iconst (0), 1), (13, .istore_n 3, 1), (14, .iload_n 3, 1), (15, .iload_n 2, 1), (16, .if_icmp .ge (16), 3), (19, .aload_n 0, 1), (20, .getfield 29, 3), (23, .iload_n 3, 1), (24, .iconst (0), 1), (25, .iastore, 1), (26, .iinc 3 (1), 3), (29, .goto (-15), 3), (32, .aload_n 0, 1), (33, .getfield 45, 3), (36, .iconst (1), 1), (37, .isub, 1), (38, .istore_n 3, 1), (39, .iload_n 3, 1), (40, .ifCond .lt (108), 3), (43, .iconst (0), 1), (44, .istore 4, 2), (46, .aload_n 0, 1), (47, .getfield 16, 3), (50, .iload_n 1, 1), (51, .iaload, 1), (52, .iconst (1), 1), (53, .isub, 1), (54, .istore 5, 2), (56, .iload 5, 2), (58, .ifCond .lt (69), 3), (61, .aload_n 0, 1), (62, .getfield 29, 3), (65, .iload_n 3, 1), (66, .iload 5, 2), (68, .iadd, 1), (69, .iconst (1), 1), (70, .iadd, 1), (71, .iaload, 1), (72, .aload_n 0, 1), (73, .getfield 26, 3), (76, .iload_n 3, 1), (77, .iaload, 1), (78, .aload_n 0, 1), (79, .getfield 13, 3), (82, .sipush (1000), 3), (85, .iload_n 1, 1), (86, .imul, 1), (87, .iload 5, 2), (89, .iadd, 1), (90, .iaload, 1), (91, .imul, 1), (92, .iadd, 1), (93, .iload 4, 2), (95, .iadd, 1), (96, .istore 6, 2), (98, .aload_n 0, 1), (99, .getfield 29, 3), (102, .iload_n 3, 1), (103, .iload 5, 2), (105, .iadd, 1), (106, .iconst (1), 1), (107, .iadd, 1), (108, .iload 6, 2), (110, .bipush (10), 2), (112, .irem, 1), (113, .iastore, 1), (114, .iload 6, 2), (116, .bipush (10), 2), (118, .idiv, 1), (119, .istore 4, 2), (121, .iinc 5 (-1), 3), (124, .goto (-68), 3), (127, .aload_n 0, 1), (128, .getfield 29, 3), (131, .iload_n 3, 1), (132, .aload_n 0, 1), (133, .getfield 29, 3), (136, .iload_n 3, 1), (137, .iaload, 1), (138, .iload 4, 2), (140, .iadd, 1), (141, .iastore, 1), (142, .iinc 3 (-1), 3), (145, .goto (-106), 3), (148, .aload_n 0, 1), (149, .iload_n 2, 1), (150, .putfield 45, 3), (153, .iconst (0), 1), (154, .istore_n 3, 1), (155, .iload_n 3, 1), (156, .iload_n 2, 1), (157, .if_icmp .ge (21), 3), (160, .aload_n 0, 1), (161, .getfield 26, 3), (164, .iload_n 3, 1), (165, .aload_n 0, 1), (166, .getfield 29, 3), (169, .iload_n 3, 1), (170, .iaload, 1), (171, .iastore, 1), (172, .iinc 3 (1), 3), (175, .goto (-20), 3), (178, .aload_n 0, 1), (179, .getfield 56, 3), (182, .istore_n 3, 1), (183, .aload_n 0, 1), (184, .iload_n 3, 1), (185, .aload_n 0, 1), (186, .getfield 19, 3), (189, .iload_n 1, 1), (190, .baload, 1), (191, .if_icmp .eq (7), 3), (194, .iconst (1), 1), (195, .goto (4), 3), (198, .iconst (0), 1), (199, .putfield 56, 3), (202, .aload_n 0, 1), (203, .aload_n 0, 1), (204, .getfield 48, 3), (207, .aload_n 0, 1), (208, .getfield 23, 3), (211, .iload_n 1, 1), (212, .iaload, 1), (213, .i2l, 1), (214, .ladd, 1), (215, .putfield 48, 3), (218, .aload_n 0, 1), (219, .invokevirtual 59, 3), (222, .aload_n 0, 1), (223, .getfield 45, 3), (226, .sipush (1000), 3), (229, .if_icmp .gt (7), 3), (232, .iconst (1), 1), (233, .goto (4), 3), (236, .iconst (0), 1), (237, .ireturn, 1)]
theorem dc_Mo_times : ∀ q ∈ dl_Mo_times, decode (zd_yb m_Mo_times) q.1 = .ok q.2 := by decide +kernel
def cm_Mo_times (l : Launch) (B : zd_B) : List (Nat × zm_S) := [(0, om_p (oc_aload 0 1)), (1, om_getf gM 8 4), (4, om_p (oc_aload 0 5)), (5, om_getf gM 4 8), (8, om_p (oc_iload 1 9)), (9, om_ald gM 0 10), (10, om_p (oc_iadd 11)), (11, om_p (oc_istore 2 12)), (12, om_p (oc_ci (0) 13)), (13, om_p (oc_istore 3 14)), (14, om_p (oc_iload 3 15)), (15, om_p (oc_iload 2 16)), (16, om_p (oc_icmp_ge 32 19)), (19, om_p (oc_aload 0 20)), (20, om_getf gM 12 23), (23, om_p (oc_iload 3 24)), (24, om_p (oc_ci (0) 25)), (25, om_ast gM 0 cs_i 26), (26, om_p (oc_iinc 3 (1) 29)), (29, om_p (oc_goto 14)), (32, om_p (oc_aload 0 33)), (33, om_getf gM 8 36), (36, om_p (oc_ci (1) 37)), (37, om_p (oc_isub 38)), (38, om_p (oc_istore 3 39)), (39, om_p (oc_iload 3 40)), (40, om_p (oc_if_lt 148 43)), (43, om_p (oc_ci (0) 44)), (44, om_p (oc_istore 4 46)), (46, om_p (oc_aload 0 47)), (47, om_getf gM 4 50), (50, om_p (oc_iload 1 51)), (51, om_ald gM 0 52), (52, om_p (oc_ci (1) 53)), (53, om_p (oc_isub 54)), (54, om_p (oc_istore 5 56)), (56, om_p (oc_iload 5 58)), (58, om_p (oc_if_lt 127 61)), (61, om_p (oc_aload 0 62)), (62, om_getf gM 12 65), (65, om_p (oc_iload 3 66)), (66, om_p (oc_iload 5 68)), (68, om_p (oc_iadd 69)), (69, om_p (oc_ci (1) 70)), (70, om_p (oc_iadd 71)), (71, om_ald gM 0 72), (72, om_p (oc_aload 0 73)), (73, om_getf gM 7 76), (76, om_p (oc_iload 3 77)), (77, om_ald gM 0 78), (78, om_p (oc_aload 0 79)), (79, om_getf gM 3 82), (82, om_p (oc_ci (1000) 85)), (85, om_p (oc_iload 1 86)), (86, om_p (oc_imul 87)), (87, om_p (oc_iload 5 89)), (89, om_p (oc_iadd 90)), (90, om_ald gM 0 91), (91, om_p (oc_imul 92)), (92, om_p (oc_iadd 93)), (93, om_p (oc_iload 4 95)), (95, om_p (oc_iadd 96)), (96, om_p (oc_istore 6 98)), (98, om_p (oc_aload 0 99)), (99, om_getf gM 12 102), (102, om_p (oc_iload 3 103)), (103, om_p (oc_iload 5 105)), (105, om_p (oc_iadd 106)), (106, om_p (oc_ci (1) 107)), (107, om_p (oc_iadd 108)), (108, om_p (oc_iload 6 110)), (110, om_p (oc_ci (10) 112)), (112, om_p (oc_irem 113)), (113, om_ast gM 0 cs_i 114), (114, om_p (oc_iload 6 116)), (116, om_p (oc_ci (10) 118)), (118, om_p (oc_idiv 119)), (119, om_p (oc_istore 4 121)), (121, om_p (oc_iinc 5 (-1) 124)), (124, om_p (oc_goto 56)), (127, om_p (oc_aload 0 128)), (128, om_getf gM 12 131), (131, om_p (oc_iload 3 132)), (132, om_p (oc_aload 0 133)), (133, om_getf gM 12 136), (136, om_p (oc_iload 3 137)), (137, om_ald gM 0 138), (138, om_p (oc_iload 4 140)), (140, om_p (oc_iadd 141)), (141, om_ast gM 0 cs_i 142), (142, om_p (oc_iinc 3 (-1) 145)), (145, om_p (oc_goto 39)), (148, om_p (oc_aload 0 149)), (149, om_p (oc_iload 2 150)), (150, om_puti gM 8 153), (153, om_p (oc_ci (0) 154)), (154, om_p (oc_istore 3 155)), (155, om_p (oc_iload 3 156)), (156, om_p (oc_iload 2 157)), (157, om_p (oc_icmp_ge 178 160)), (160, om_p (oc_aload 0 161)), (161, om_getf gM 7 164), (164, om_p (oc_iload 3 165)), (165, om_p (oc_aload 0 166)), (166, om_getf gM 12 169), (169, om_p (oc_iload 3 170)), (170, om_ald gM 0 171), (171, om_ast gM 0 cs_i 172), (172, om_p (oc_iinc 3 (1) 175)), (175, om_p (oc_goto 155)), (178, om_p (oc_aload 0 179)), (179, om_getf gM 11 182), (182, om_p (oc_istore 3 183)), (183, om_p (oc_aload 0 184)), (184, om_p (oc_iload 3 185)), (185, om_p (oc_aload 0 186)), (186, om_getf gM 5 189), (189, om_p (oc_iload 1 190)), (190, om_ald gM 2 191), (191, om_p (oc_icmp_eq 198 194)), (194, om_p (oc_ci (1) 195)), (195, om_p (oc_goto 199)), (198, om_p (oc_ci (0) 199)), (199, om_putb gM 11 202), (202, om_p (oc_aload 0 203)), (203, om_p (oc_aload 0 204)), (204, om_getf gM 9 207), (207, om_p (oc_aload 0 208)), (208, om_getf gM 6 211), (211, om_p (oc_iload 1 212)), (212, om_ald gM 0 213), (213, om_p (oc_i2l 214)), (214, om_p (oc_ladd 215)), (215, om_putl gM 9 218), (218, om_p (oc_aload 0 219)), (219, om_callv l B gM m_Mo_trim 0 222), (222, om_p (oc_aload 0 223)), (223, om_getf gM 8 226), (226, om_p (oc_ci (1000) 229)), (229, om_p (oc_icmp_gt 236 232)), (232, om_p (oc_ci (1) 233)), (233, om_p (oc_goto 237)), (236, om_p (oc_ci (0) 237)), (237, om_zret)]
set_option maxRecDepth 20000 in
theorem okm_Mo_times {l : Launch} {B : zd_B} (hG : zd_G B) (hl : l.stackTraces = false) : ∀ q ∈ cm_Mo_times l B, zm_ok l B gM m_Mo_times q.1 q.2 := by
  unfold cm_Mo_times
  refine zm_ac (om_pk nt_aload (ok_aload_n (l := l) (B := B) (y := m_Mo_times) (pc := 0) (k := 0) rfl (zd_dr dc_Mo_times 0 rfl))) ?_
  refine zm_ac (ok_mgetf rfl (ok_getf (l := l) (B := B) (y := m_Mo_times) (pc := 1) hG (C := zR8) (T := zT8) (N := 21) (ci := 8) (k := 8) rfl zl8 (by decide) (List.mem_of_getElem? (i := 890) (by decide +kernel)) (zd_dr dc_Mo_times 1 rfl))) ?_
  refine zm_ac (om_pk nt_aload (ok_aload_n (l := l) (B := B) (y := m_Mo_times) (pc := 4) (k := 0) rfl (zd_dr dc_Mo_times 2 rfl))) ?_
  refine zm_ac (ok_mgetf rfl (ok_getf (l := l) (B := B) (y := m_Mo_times) (pc := 5) hG (C := zR8) (T := zT8) (N := 21) (ci := 8) (k := 4) rfl zl8 (by decide) (List.mem_of_getElem? (i := 886) (by decide +kernel)) (zd_dr dc_Mo_times 3 rfl))) ?_
  refine zm_ac (om_pk nt_iload (ok_iload_n (l := l) (B := B) (y := m_Mo_times) (pc := 8) (k := 1) rfl (zd_dr dc_Mo_times 4 rfl))) ?_
  refine zm_ac (ok_miaload (ok_iaload (l := l) (B := B) (y := m_Mo_times) (pc := 9) hG (zd_dr dc_Mo_times 5 rfl))) ?_
  refine zm_ac (om_pk nt_iadd (ok_iadd (l := l) (B := B) (y := m_Mo_times) (pc := 10) (zd_dr dc_Mo_times 6 rfl))) ?_
  refine zm_ac (om_pk nt_istore (ok_istore_n (l := l) (B := B) (y := m_Mo_times) (pc := 11) (k := 2) rfl (zd_dr dc_Mo_times 7 rfl) (by decide))) ?_
  refine zm_ac (om_pk nt_ci (ok_iconst (l := l) (B := B) (y := m_Mo_times) (pc := 12) (n := (0)) (zd_dr dc_Mo_times 8 rfl) rfl)) ?_
  refine zm_ac (om_pk nt_istore (ok_istore_n (l := l) (B := B) (y := m_Mo_times) (pc := 13) (k := 3) rfl (zd_dr dc_Mo_times 9 rfl) (by decide))) ?_
  refine zm_ac (om_pk nt_iload (ok_iload_n (l := l) (B := B) (y := m_Mo_times) (pc := 14) (k := 3) rfl (zd_dr dc_Mo_times 10 rfl))) ?_
  refine zm_ac (om_pk nt_iload (ok_iload_n (l := l) (B := B) (y := m_Mo_times) (pc := 15) (k := 2) rfl (zd_dr dc_Mo_times 11 rfl))) ?_
  refine zm_ac (om_pk nt_icmp_ge (ok_icmp_ge (l := l) (B := B) (y := m_Mo_times) (pc := 16) (zd_dr dc_Mo_times 12 rfl) (by decide))) ?_
  refine zm_ac (om_pk nt_aload (ok_aload_n (l := l) (B := B) (y := m_Mo_times) (pc := 19) (k := 0) rfl (zd_dr dc_Mo_times 13 rfl))) ?_
  refine zm_ac (ok_mgetf rfl (ok_getf (l := l) (B := B) (y := m_Mo_times) (pc := 20) hG (C := zR8) (T := zT8) (N := 21) (ci := 8) (k := 12) rfl zl8 (by decide) (List.mem_of_getElem? (i := 894) (by decide +kernel)) (zd_dr dc_Mo_times 14 rfl))) ?_
  refine zm_ac (om_pk nt_iload (ok_iload_n (l := l) (B := B) (y := m_Mo_times) (pc := 23) (k := 3) rfl (zd_dr dc_Mo_times 15 rfl))) ?_
  refine zm_ac (om_pk nt_ci (ok_iconst (l := l) (B := B) (y := m_Mo_times) (pc := 24) (n := (0)) (zd_dr dc_Mo_times 16 rfl) rfl)) ?_
  refine zm_ac (ok_miastore (ok_iastore (l := l) (B := B) (y := m_Mo_times) (pc := 25) hG (zd_dr dc_Mo_times 17 rfl))) ?_
  refine zm_ac (om_pk nt_iinc (ok_iinc (l := l) (B := B) (y := m_Mo_times) (pc := 26) (zd_dr dc_Mo_times 18 rfl) (by decide) rfl)) ?_
  refine zm_ac (om_pk nt_goto (ok_goto (l := l) (B := B) (y := m_Mo_times) (pc := 29) (zd_dr dc_Mo_times 19 rfl) (by decide))) ?_
  refine zm_ac (om_pk nt_aload (ok_aload_n (l := l) (B := B) (y := m_Mo_times) (pc := 32) (k := 0) rfl (zd_dr dc_Mo_times 20 rfl))) ?_
  refine zm_ac (ok_mgetf rfl (ok_getf (l := l) (B := B) (y := m_Mo_times) (pc := 33) hG (C := zR8) (T := zT8) (N := 21) (ci := 8) (k := 8) rfl zl8 (by decide) (List.mem_of_getElem? (i := 890) (by decide +kernel)) (zd_dr dc_Mo_times 21 rfl))) ?_
  refine zm_ac (om_pk nt_ci (ok_iconst (l := l) (B := B) (y := m_Mo_times) (pc := 36) (n := (1)) (zd_dr dc_Mo_times 22 rfl) rfl)) ?_
  refine zm_ac (om_pk nt_isub (ok_isub (l := l) (B := B) (y := m_Mo_times) (pc := 37) (zd_dr dc_Mo_times 23 rfl))) ?_
  refine zm_ac (om_pk nt_istore (ok_istore_n (l := l) (B := B) (y := m_Mo_times) (pc := 38) (k := 3) rfl (zd_dr dc_Mo_times 24 rfl) (by decide))) ?_
  refine zm_ac (om_pk nt_iload (ok_iload_n (l := l) (B := B) (y := m_Mo_times) (pc := 39) (k := 3) rfl (zd_dr dc_Mo_times 25 rfl))) ?_
  refine zm_ac (om_pk nt_if_lt (ok_if_lt (l := l) (B := B) (y := m_Mo_times) (pc := 40) (zd_dr dc_Mo_times 26 rfl) (by decide))) ?_
  refine zm_ac (om_pk nt_ci (ok_iconst (l := l) (B := B) (y := m_Mo_times) (pc := 43) (n := (0)) (zd_dr dc_Mo_times 27 rfl) rfl)) ?_
  refine zm_ac (om_pk nt_istore (ok_istore (l := l) (B := B) (y := m_Mo_times) (pc := 44) (zd_dr dc_Mo_times 28 rfl) (by decide))) ?_
  refine zm_ac (om_pk nt_aload (ok_aload_n (l := l) (B := B) (y := m_Mo_times) (pc := 46) (k := 0) rfl (zd_dr dc_Mo_times 29 rfl))) ?_
  refine zm_ac (ok_mgetf rfl (ok_getf (l := l) (B := B) (y := m_Mo_times) (pc := 47) hG (C := zR8) (T := zT8) (N := 21) (ci := 8) (k := 4) rfl zl8 (by decide) (List.mem_of_getElem? (i := 886) (by decide +kernel)) (zd_dr dc_Mo_times 30 rfl))) ?_
  refine zm_ac (om_pk nt_iload (ok_iload_n (l := l) (B := B) (y := m_Mo_times) (pc := 50) (k := 1) rfl (zd_dr dc_Mo_times 31 rfl))) ?_
  refine zm_ac (ok_miaload (ok_iaload (l := l) (B := B) (y := m_Mo_times) (pc := 51) hG (zd_dr dc_Mo_times 32 rfl))) ?_
  refine zm_ac (om_pk nt_ci (ok_iconst (l := l) (B := B) (y := m_Mo_times) (pc := 52) (n := (1)) (zd_dr dc_Mo_times 33 rfl) rfl)) ?_
  refine zm_ac (om_pk nt_isub (ok_isub (l := l) (B := B) (y := m_Mo_times) (pc := 53) (zd_dr dc_Mo_times 34 rfl))) ?_
  refine zm_ac (om_pk nt_istore (ok_istore (l := l) (B := B) (y := m_Mo_times) (pc := 54) (zd_dr dc_Mo_times 35 rfl) (by decide))) ?_
  refine zm_ac (om_pk nt_iload (ok_iload (l := l) (B := B) (y := m_Mo_times) (pc := 56) (zd_dr dc_Mo_times 36 rfl))) ?_
  refine zm_ac (om_pk nt_if_lt (ok_if_lt (l := l) (B := B) (y := m_Mo_times) (pc := 58) (zd_dr dc_Mo_times 37 rfl) (by decide))) ?_
  refine zm_ac (om_pk nt_aload (ok_aload_n (l := l) (B := B) (y := m_Mo_times) (pc := 61) (k := 0) rfl (zd_dr dc_Mo_times 38 rfl))) ?_
  refine zm_ac (ok_mgetf rfl (ok_getf (l := l) (B := B) (y := m_Mo_times) (pc := 62) hG (C := zR8) (T := zT8) (N := 21) (ci := 8) (k := 12) rfl zl8 (by decide) (List.mem_of_getElem? (i := 894) (by decide +kernel)) (zd_dr dc_Mo_times 39 rfl))) ?_
  refine zm_ac (om_pk nt_iload (ok_iload_n (l := l) (B := B) (y := m_Mo_times) (pc := 65) (k := 3) rfl (zd_dr dc_Mo_times 40 rfl))) ?_
  refine zm_ac (om_pk nt_iload (ok_iload (l := l) (B := B) (y := m_Mo_times) (pc := 66) (zd_dr dc_Mo_times 41 rfl))) ?_
  refine zm_ac (om_pk nt_iadd (ok_iadd (l := l) (B := B) (y := m_Mo_times) (pc := 68) (zd_dr dc_Mo_times 42 rfl))) ?_
  refine zm_ac (om_pk nt_ci (ok_iconst (l := l) (B := B) (y := m_Mo_times) (pc := 69) (n := (1)) (zd_dr dc_Mo_times 43 rfl) rfl)) ?_
  refine zm_ac (om_pk nt_iadd (ok_iadd (l := l) (B := B) (y := m_Mo_times) (pc := 70) (zd_dr dc_Mo_times 44 rfl))) ?_
  refine zm_ac (ok_miaload (ok_iaload (l := l) (B := B) (y := m_Mo_times) (pc := 71) hG (zd_dr dc_Mo_times 45 rfl))) ?_
  refine zm_ac (om_pk nt_aload (ok_aload_n (l := l) (B := B) (y := m_Mo_times) (pc := 72) (k := 0) rfl (zd_dr dc_Mo_times 46 rfl))) ?_
  refine zm_ac (ok_mgetf rfl (ok_getf (l := l) (B := B) (y := m_Mo_times) (pc := 73) hG (C := zR8) (T := zT8) (N := 21) (ci := 8) (k := 7) rfl zl8 (by decide) (List.mem_of_getElem? (i := 889) (by decide +kernel)) (zd_dr dc_Mo_times 47 rfl))) ?_
  refine zm_ac (om_pk nt_iload (ok_iload_n (l := l) (B := B) (y := m_Mo_times) (pc := 76) (k := 3) rfl (zd_dr dc_Mo_times 48 rfl))) ?_
  refine zm_ac (ok_miaload (ok_iaload (l := l) (B := B) (y := m_Mo_times) (pc := 77) hG (zd_dr dc_Mo_times 49 rfl))) ?_
  refine zm_ac (om_pk nt_aload (ok_aload_n (l := l) (B := B) (y := m_Mo_times) (pc := 78) (k := 0) rfl (zd_dr dc_Mo_times 50 rfl))) ?_
  refine zm_ac (ok_mgetf rfl (ok_getf (l := l) (B := B) (y := m_Mo_times) (pc := 79) hG (C := zR8) (T := zT8) (N := 21) (ci := 8) (k := 3) rfl zl8 (by decide) (List.mem_of_getElem? (i := 885) (by decide +kernel)) (zd_dr dc_Mo_times 51 rfl))) ?_
  refine zm_ac (om_pk nt_ci (ok_sipush (l := l) (B := B) (y := m_Mo_times) (pc := 82) (n := (1000)) (zd_dr dc_Mo_times 52 rfl) rfl)) ?_
  refine zm_ac (om_pk nt_iload (ok_iload_n (l := l) (B := B) (y := m_Mo_times) (pc := 85) (k := 1) rfl (zd_dr dc_Mo_times 53 rfl))) ?_
  refine zm_ac (om_pk nt_imul (ok_imul (l := l) (B := B) (y := m_Mo_times) (pc := 86) (zd_dr dc_Mo_times 54 rfl))) ?_
  refine zm_ac (om_pk nt_iload (ok_iload (l := l) (B := B) (y := m_Mo_times) (pc := 87) (zd_dr dc_Mo_times 55 rfl))) ?_
  refine zm_ac (om_pk nt_iadd (ok_iadd (l := l) (B := B) (y := m_Mo_times) (pc := 89) (zd_dr dc_Mo_times 56 rfl))) ?_
  refine zm_ac (ok_miaload (ok_iaload (l := l) (B := B) (y := m_Mo_times) (pc := 90) hG (zd_dr dc_Mo_times 57 rfl))) ?_
  refine zm_ac (om_pk nt_imul (ok_imul (l := l) (B := B) (y := m_Mo_times) (pc := 91) (zd_dr dc_Mo_times 58 rfl))) ?_
  refine zm_ac (om_pk nt_iadd (ok_iadd (l := l) (B := B) (y := m_Mo_times) (pc := 92) (zd_dr dc_Mo_times 59 rfl))) ?_
  refine zm_ac (om_pk nt_iload (ok_iload (l := l) (B := B) (y := m_Mo_times) (pc := 93) (zd_dr dc_Mo_times 60 rfl))) ?_
  refine zm_ac (om_pk nt_iadd (ok_iadd (l := l) (B := B) (y := m_Mo_times) (pc := 95) (zd_dr dc_Mo_times 61 rfl))) ?_
  refine zm_ac (om_pk nt_istore (ok_istore (l := l) (B := B) (y := m_Mo_times) (pc := 96) (zd_dr dc_Mo_times 62 rfl) (by decide))) ?_
  refine zm_ac (om_pk nt_aload (ok_aload_n (l := l) (B := B) (y := m_Mo_times) (pc := 98) (k := 0) rfl (zd_dr dc_Mo_times 63 rfl))) ?_
  refine zm_ac (ok_mgetf rfl (ok_getf (l := l) (B := B) (y := m_Mo_times) (pc := 99) hG (C := zR8) (T := zT8) (N := 21) (ci := 8) (k := 12) rfl zl8 (by decide) (List.mem_of_getElem? (i := 894) (by decide +kernel)) (zd_dr dc_Mo_times 64 rfl))) ?_
  refine zm_ac (om_pk nt_iload (ok_iload_n (l := l) (B := B) (y := m_Mo_times) (pc := 102) (k := 3) rfl (zd_dr dc_Mo_times 65 rfl))) ?_
  refine zm_ac (om_pk nt_iload (ok_iload (l := l) (B := B) (y := m_Mo_times) (pc := 103) (zd_dr dc_Mo_times 66 rfl))) ?_
  refine zm_ac (om_pk nt_iadd (ok_iadd (l := l) (B := B) (y := m_Mo_times) (pc := 105) (zd_dr dc_Mo_times 67 rfl))) ?_
  refine zm_ac (om_pk nt_ci (ok_iconst (l := l) (B := B) (y := m_Mo_times) (pc := 106) (n := (1)) (zd_dr dc_Mo_times 68 rfl) rfl)) ?_
  refine zm_ac (om_pk nt_iadd (ok_iadd (l := l) (B := B) (y := m_Mo_times) (pc := 107) (zd_dr dc_Mo_times 69 rfl))) ?_
  refine zm_ac (om_pk nt_iload (ok_iload (l := l) (B := B) (y := m_Mo_times) (pc := 108) (zd_dr dc_Mo_times 70 rfl))) ?_
  refine zm_ac (om_pk nt_ci (ok_bipush (l := l) (B := B) (y := m_Mo_times) (pc := 110) (n := (10)) (zd_dr dc_Mo_times 71 rfl) rfl)) ?_
  refine zm_ac (om_pk nt_irem (ok_irem (l := l) (B := B) (y := m_Mo_times) (pc := 112) (zd_dr dc_Mo_times 72 rfl))) ?_
  refine zm_ac (ok_miastore (ok_iastore (l := l) (B := B) (y := m_Mo_times) (pc := 113) hG (zd_dr dc_Mo_times 73 rfl))) ?_
  refine zm_ac (om_pk nt_iload (ok_iload (l := l) (B := B) (y := m_Mo_times) (pc := 114) (zd_dr dc_Mo_times 74 rfl))) ?_
  refine zm_ac (om_pk nt_ci (ok_bipush (l := l) (B := B) (y := m_Mo_times) (pc := 116) (n := (10)) (zd_dr dc_Mo_times 75 rfl) rfl)) ?_
  refine zm_ac (om_pk nt_idiv (ok_idiv (l := l) (B := B) (y := m_Mo_times) (pc := 118) (zd_dr dc_Mo_times 76 rfl))) ?_
  refine zm_ac (om_pk nt_istore (ok_istore (l := l) (B := B) (y := m_Mo_times) (pc := 119) (zd_dr dc_Mo_times 77 rfl) (by decide))) ?_
  refine zm_ac (om_pk nt_iinc (ok_iinc (l := l) (B := B) (y := m_Mo_times) (pc := 121) (zd_dr dc_Mo_times 78 rfl) (by decide) rfl)) ?_
  refine zm_ac (om_pk nt_goto (ok_goto (l := l) (B := B) (y := m_Mo_times) (pc := 124) (zd_dr dc_Mo_times 79 rfl) (by decide))) ?_
  refine zm_ac (om_pk nt_aload (ok_aload_n (l := l) (B := B) (y := m_Mo_times) (pc := 127) (k := 0) rfl (zd_dr dc_Mo_times 80 rfl))) ?_
  refine zm_ac (ok_mgetf rfl (ok_getf (l := l) (B := B) (y := m_Mo_times) (pc := 128) hG (C := zR8) (T := zT8) (N := 21) (ci := 8) (k := 12) rfl zl8 (by decide) (List.mem_of_getElem? (i := 894) (by decide +kernel)) (zd_dr dc_Mo_times 81 rfl))) ?_
  refine zm_ac (om_pk nt_iload (ok_iload_n (l := l) (B := B) (y := m_Mo_times) (pc := 131) (k := 3) rfl (zd_dr dc_Mo_times 82 rfl))) ?_
  refine zm_ac (om_pk nt_aload (ok_aload_n (l := l) (B := B) (y := m_Mo_times) (pc := 132) (k := 0) rfl (zd_dr dc_Mo_times 83 rfl))) ?_
  refine zm_ac (ok_mgetf rfl (ok_getf (l := l) (B := B) (y := m_Mo_times) (pc := 133) hG (C := zR8) (T := zT8) (N := 21) (ci := 8) (k := 12) rfl zl8 (by decide) (List.mem_of_getElem? (i := 894) (by decide +kernel)) (zd_dr dc_Mo_times 84 rfl))) ?_
  refine zm_ac (om_pk nt_iload (ok_iload_n (l := l) (B := B) (y := m_Mo_times) (pc := 136) (k := 3) rfl (zd_dr dc_Mo_times 85 rfl))) ?_
  refine zm_ac (ok_miaload (ok_iaload (l := l) (B := B) (y := m_Mo_times) (pc := 137) hG (zd_dr dc_Mo_times 86 rfl))) ?_
  refine zm_ac (om_pk nt_iload (ok_iload (l := l) (B := B) (y := m_Mo_times) (pc := 138) (zd_dr dc_Mo_times 87 rfl))) ?_
  refine zm_ac (om_pk nt_iadd (ok_iadd (l := l) (B := B) (y := m_Mo_times) (pc := 140) (zd_dr dc_Mo_times 88 rfl))) ?_
  refine zm_ac (ok_miastore (ok_iastore (l := l) (B := B) (y := m_Mo_times) (pc := 141) hG (zd_dr dc_Mo_times 89 rfl))) ?_
  refine zm_ac (om_pk nt_iinc (ok_iinc (l := l) (B := B) (y := m_Mo_times) (pc := 142) (zd_dr dc_Mo_times 90 rfl) (by decide) rfl)) ?_
  refine zm_ac (om_pk nt_goto (ok_goto (l := l) (B := B) (y := m_Mo_times) (pc := 145) (zd_dr dc_Mo_times 91 rfl) (by decide))) ?_
  refine zm_ac (om_pk nt_aload (ok_aload_n (l := l) (B := B) (y := m_Mo_times) (pc := 148) (k := 0) rfl (zd_dr dc_Mo_times 92 rfl))) ?_
  refine zm_ac (om_pk nt_iload (ok_iload_n (l := l) (B := B) (y := m_Mo_times) (pc := 149) (k := 2) rfl (zd_dr dc_Mo_times 93 rfl))) ?_
  refine zm_ac (ok_mputi rfl (ok_putf (l := l) (B := B) (y := m_Mo_times) (pc := 150) hG (C := zR8) (T := zT8) (N := 21) (ci := 8) (k := 8) rfl zl8 zt8 (by decide) (List.mem_of_getElem? (i := 890) (by decide +kernel)) rfl (zd_dr dc_Mo_times 94 rfl))) ?_
  refine zm_ac (om_pk nt_ci (ok_iconst (l := l) (B := B) (y := m_Mo_times) (pc := 153) (n := (0)) (zd_dr dc_Mo_times 95 rfl) rfl)) ?_
  refine zm_ac (om_pk nt_istore (ok_istore_n (l := l) (B := B) (y := m_Mo_times) (pc := 154) (k := 3) rfl (zd_dr dc_Mo_times 96 rfl) (by decide))) ?_
  refine zm_ac (om_pk nt_iload (ok_iload_n (l := l) (B := B) (y := m_Mo_times) (pc := 155) (k := 3) rfl (zd_dr dc_Mo_times 97 rfl))) ?_
  refine zm_ac (om_pk nt_iload (ok_iload_n (l := l) (B := B) (y := m_Mo_times) (pc := 156) (k := 2) rfl (zd_dr dc_Mo_times 98 rfl))) ?_
  refine zm_ac (om_pk nt_icmp_ge (ok_icmp_ge (l := l) (B := B) (y := m_Mo_times) (pc := 157) (zd_dr dc_Mo_times 99 rfl) (by decide))) ?_
  refine zm_ac (om_pk nt_aload (ok_aload_n (l := l) (B := B) (y := m_Mo_times) (pc := 160) (k := 0) rfl (zd_dr dc_Mo_times 100 rfl))) ?_
  refine zm_ac (ok_mgetf rfl (ok_getf (l := l) (B := B) (y := m_Mo_times) (pc := 161) hG (C := zR8) (T := zT8) (N := 21) (ci := 8) (k := 7) rfl zl8 (by decide) (List.mem_of_getElem? (i := 889) (by decide +kernel)) (zd_dr dc_Mo_times 101 rfl))) ?_
  refine zm_ac (om_pk nt_iload (ok_iload_n (l := l) (B := B) (y := m_Mo_times) (pc := 164) (k := 3) rfl (zd_dr dc_Mo_times 102 rfl))) ?_
  refine zm_ac (om_pk nt_aload (ok_aload_n (l := l) (B := B) (y := m_Mo_times) (pc := 165) (k := 0) rfl (zd_dr dc_Mo_times 103 rfl))) ?_
  refine zm_ac (ok_mgetf rfl (ok_getf (l := l) (B := B) (y := m_Mo_times) (pc := 166) hG (C := zR8) (T := zT8) (N := 21) (ci := 8) (k := 12) rfl zl8 (by decide) (List.mem_of_getElem? (i := 894) (by decide +kernel)) (zd_dr dc_Mo_times 104 rfl))) ?_
  refine zm_ac (om_pk nt_iload (ok_iload_n (l := l) (B := B) (y := m_Mo_times) (pc := 169) (k := 3) rfl (zd_dr dc_Mo_times 105 rfl))) ?_
  refine zm_ac (ok_miaload (ok_iaload (l := l) (B := B) (y := m_Mo_times) (pc := 170) hG (zd_dr dc_Mo_times 106 rfl))) ?_
  refine zm_ac (ok_miastore (ok_iastore (l := l) (B := B) (y := m_Mo_times) (pc := 171) hG (zd_dr dc_Mo_times 107 rfl))) ?_
  refine zm_ac (om_pk nt_iinc (ok_iinc (l := l) (B := B) (y := m_Mo_times) (pc := 172) (zd_dr dc_Mo_times 108 rfl) (by decide) rfl)) ?_
  refine zm_ac (om_pk nt_goto (ok_goto (l := l) (B := B) (y := m_Mo_times) (pc := 175) (zd_dr dc_Mo_times 109 rfl) (by decide))) ?_
  refine zm_ac (om_pk nt_aload (ok_aload_n (l := l) (B := B) (y := m_Mo_times) (pc := 178) (k := 0) rfl (zd_dr dc_Mo_times 110 rfl))) ?_
  refine zm_ac (ok_mgetf rfl (ok_getf (l := l) (B := B) (y := m_Mo_times) (pc := 179) hG (C := zR8) (T := zT8) (N := 21) (ci := 8) (k := 11) rfl zl8 (by decide) (List.mem_of_getElem? (i := 893) (by decide +kernel)) (zd_dr dc_Mo_times 111 rfl))) ?_
  refine zm_ac (om_pk nt_istore (ok_istore_n (l := l) (B := B) (y := m_Mo_times) (pc := 182) (k := 3) rfl (zd_dr dc_Mo_times 112 rfl) (by decide))) ?_
  refine zm_ac (om_pk nt_aload (ok_aload_n (l := l) (B := B) (y := m_Mo_times) (pc := 183) (k := 0) rfl (zd_dr dc_Mo_times 113 rfl))) ?_
  refine zm_ac (om_pk nt_iload (ok_iload_n (l := l) (B := B) (y := m_Mo_times) (pc := 184) (k := 3) rfl (zd_dr dc_Mo_times 114 rfl))) ?_
  refine zm_ac (om_pk nt_aload (ok_aload_n (l := l) (B := B) (y := m_Mo_times) (pc := 185) (k := 0) rfl (zd_dr dc_Mo_times 115 rfl))) ?_
  refine zm_ac (ok_mgetf rfl (ok_getf (l := l) (B := B) (y := m_Mo_times) (pc := 186) hG (C := zR8) (T := zT8) (N := 21) (ci := 8) (k := 5) rfl zl8 (by decide) (List.mem_of_getElem? (i := 887) (by decide +kernel)) (zd_dr dc_Mo_times 116 rfl))) ?_
  refine zm_ac (om_pk nt_iload (ok_iload_n (l := l) (B := B) (y := m_Mo_times) (pc := 189) (k := 1) rfl (zd_dr dc_Mo_times 117 rfl))) ?_
  refine zm_ac (ok_mbaload (ok_baload (l := l) (B := B) (y := m_Mo_times) (pc := 190) hG (zd_dr dc_Mo_times 118 rfl))) ?_
  refine zm_ac (om_pk nt_icmp_eq (ok_icmp_eq (l := l) (B := B) (y := m_Mo_times) (pc := 191) (zd_dr dc_Mo_times 119 rfl) (by decide))) ?_
  refine zm_ac (om_pk nt_ci (ok_iconst (l := l) (B := B) (y := m_Mo_times) (pc := 194) (n := (1)) (zd_dr dc_Mo_times 120 rfl) rfl)) ?_
  refine zm_ac (om_pk nt_goto (ok_goto (l := l) (B := B) (y := m_Mo_times) (pc := 195) (zd_dr dc_Mo_times 121 rfl) (by decide))) ?_
  refine zm_ac (om_pk nt_ci (ok_iconst (l := l) (B := B) (y := m_Mo_times) (pc := 198) (n := (0)) (zd_dr dc_Mo_times 122 rfl) rfl)) ?_
  refine zm_ac (ok_mputb rfl (ok_putf (l := l) (B := B) (y := m_Mo_times) (pc := 199) hG (C := zR8) (T := zT8) (N := 21) (ci := 8) (k := 11) rfl zl8 zt8 (by decide) (List.mem_of_getElem? (i := 893) (by decide +kernel)) rfl (zd_dr dc_Mo_times 123 rfl))) ?_
  refine zm_ac (om_pk nt_aload (ok_aload_n (l := l) (B := B) (y := m_Mo_times) (pc := 202) (k := 0) rfl (zd_dr dc_Mo_times 124 rfl))) ?_
  refine zm_ac (om_pk nt_aload (ok_aload_n (l := l) (B := B) (y := m_Mo_times) (pc := 203) (k := 0) rfl (zd_dr dc_Mo_times 125 rfl))) ?_
  refine zm_ac (ok_mgetf rfl (ok_getf (l := l) (B := B) (y := m_Mo_times) (pc := 204) hG (C := zR8) (T := zT8) (N := 21) (ci := 8) (k := 9) rfl zl8 (by decide) (List.mem_of_getElem? (i := 891) (by decide +kernel)) (zd_dr dc_Mo_times 126 rfl))) ?_
  refine zm_ac (om_pk nt_aload (ok_aload_n (l := l) (B := B) (y := m_Mo_times) (pc := 207) (k := 0) rfl (zd_dr dc_Mo_times 127 rfl))) ?_
  refine zm_ac (ok_mgetf rfl (ok_getf (l := l) (B := B) (y := m_Mo_times) (pc := 208) hG (C := zR8) (T := zT8) (N := 21) (ci := 8) (k := 6) rfl zl8 (by decide) (List.mem_of_getElem? (i := 888) (by decide +kernel)) (zd_dr dc_Mo_times 128 rfl))) ?_
  refine zm_ac (om_pk nt_iload (ok_iload_n (l := l) (B := B) (y := m_Mo_times) (pc := 211) (k := 1) rfl (zd_dr dc_Mo_times 129 rfl))) ?_
  refine zm_ac (ok_miaload (ok_iaload (l := l) (B := B) (y := m_Mo_times) (pc := 212) hG (zd_dr dc_Mo_times 130 rfl))) ?_
  refine zm_ac (om_pk nt_i2l (ok_i2l (l := l) (B := B) (y := m_Mo_times) (pc := 213) (zd_dr dc_Mo_times 131 rfl))) ?_
  refine zm_ac (om_pk nt_ladd (ok_ladd (l := l) (B := B) (y := m_Mo_times) (pc := 214) (zd_dr dc_Mo_times 132 rfl))) ?_
  refine zm_ac (ok_mputl rfl (ok_putf (l := l) (B := B) (y := m_Mo_times) (pc := 215) hG (C := zR8) (T := zT8) (N := 21) (ci := 8) (k := 9) rfl zl8 zt8 (by decide) (List.mem_of_getElem? (i := 891) (by decide +kernel)) rfl (zd_dr dc_Mo_times 133 rfl))) ?_
  refine zm_ac (om_pk nt_aload (ok_aload_n (l := l) (B := B) (y := m_Mo_times) (pc := 218) (k := 0) rfl (zd_dr dc_Mo_times 134 rfl))) ?_
  refine zm_ac (ok_mcallv rfl (ok_callv (l := l) (B := B) (y := m_Mo_times) (pc := 219) hG (ci := 8) rfl cf_Mo_times_Mo_trim rfl (List.mem_of_getElem? (i := 984) (by decide +kernel)) (List.mem_of_getElem? (i := 986) (by decide +kernel)) (List.mem_of_getElem? (i := 30) (by decide +kernel)) (zd_dr dc_Mo_times 135 rfl))) ?_
  refine zm_ac (om_pk nt_aload (ok_aload_n (l := l) (B := B) (y := m_Mo_times) (pc := 222) (k := 0) rfl (zd_dr dc_Mo_times 136 rfl))) ?_
  refine zm_ac (ok_mgetf rfl (ok_getf (l := l) (B := B) (y := m_Mo_times) (pc := 223) hG (C := zR8) (T := zT8) (N := 21) (ci := 8) (k := 8) rfl zl8 (by decide) (List.mem_of_getElem? (i := 890) (by decide +kernel)) (zd_dr dc_Mo_times 137 rfl))) ?_
  refine zm_ac (om_pk nt_ci (ok_sipush (l := l) (B := B) (y := m_Mo_times) (pc := 226) (n := (1000)) (zd_dr dc_Mo_times 138 rfl) rfl)) ?_
  refine zm_ac (om_pk nt_icmp_gt (ok_icmp_gt (l := l) (B := B) (y := m_Mo_times) (pc := 229) (zd_dr dc_Mo_times 139 rfl) (by decide))) ?_
  refine zm_ac (om_pk nt_ci (ok_iconst (l := l) (B := B) (y := m_Mo_times) (pc := 232) (n := (1)) (zd_dr dc_Mo_times 140 rfl) rfl)) ?_
  refine zm_ac (om_pk nt_goto (ok_goto (l := l) (B := B) (y := m_Mo_times) (pc := 233) (zd_dr dc_Mo_times 141 rfl) (by decide))) ?_
  refine zm_ac (om_pk nt_ci (ok_iconst (l := l) (B := B) (y := m_Mo_times) (pc := 236) (n := (0)) (zd_dr dc_Mo_times 142 rfl) rfl)) ?_
  refine zm_ac (ok_mzret (ok_iret (l := l) (B := B) (y := m_Mo_times) (pc := 237) rfl (zd_dr dc_Mo_times 143 rfl))) ?_
  exact zm_an
def dl_Mo_multiply : List (Nat × Instr × Nat) := [(0, .aload_n 0, 1), (1, .iload_n 1, 1), (2, .invokestatic 113, 3), (5, .ifCond .ne (17), 3), (8, .iload_n 2, 1), (9, .invokestatic 113, 3), (12, .ifCond .ne (10), 3), (15, .iload_n 3, 1), (16, .invokestatic 113, 3), (19, .ifCond .eq (7), 3), (22, .iconst (1), 1), (23, .goto (4), 3), (26, .iconst (0), 1), (27, .putfield 41, 3), (30, .aload_n 0, 1), (31, .getfield 41, 3), (34, .ifCond .le (4), 3), (37, .return_, 1), (38, .aload_n 0, 1), (39, .iconst (2), 1), (40, .putfield 66, 3), (43, .aload_n 0, 1), (44, .iload_n 1, 1), (45, .invokevirtual 132, 3), (48, .aload_n 0, 1), (49, .iload_n 2, 1), (50, .invokevirtual 135, 3), (53, .ifCond .eq (11), 3), (56, .aload_n 0, 1), (57, .iload_n 3, 1), (58, .invokevirtual 89, 3), (61, .goto (8), 3), (64, .aload_n 0, 1), (65, .iconst (2), 1), (66, .putfield 41, 3), (69, .return_, 1)]
theorem dc_Mo_multiply : ∀ q ∈ dl_Mo_multiply, decode (zd_yb m_Mo_multiply) q.1 = .ok q.2 := by decide +kernel
def cm_Mo_multiply (l : Launch) (B : zd_B) : List (Nat × zm_S) := [(0, om_p (oc_aload 0 1)), (1, om_p (oc_iload 1 2)), (2, om_calls l B gM m_Mo_no 1 5), (5, om_p (oc_if_ne 22 8)), (8, om_p (oc_iload 2 9)), (9, om_calls l B gM m_Mo_no 1 12), (12, om_p (oc_if_ne 22 15)), (15, om_p (oc_iload 3 16)), (16, om_calls l B gM m_Mo_no 1 19), (19, om_p (oc_if_eq 26 22)), (22, om_p (oc_ci (1) 23)), (23, om_p (oc_goto 27)), (26, om_p (oc_ci (0) 27)), (27, om_puti gM 0 30), (30, om_p (oc_aload 0 31)), (31, om_getf gM 0 34), (34, om_p (oc_if_le 38 37)), (37, om_vret), (38, om_p (oc_aload 0 39)), (39, om_p (oc_ci (2) 40)), (40, om_puti gM 20 43), (43, om_p (oc_aload 0 44)), (44, om_p (oc_iload 1 45)), (45, om_callv l B gM m_Mo_load 1 48), (48, om_p (oc_aload 0 49)), (49, om_p (oc_iload 2 50)), (50, om_callv l B gM m_Mo_times 1 53), (53, om_p (oc_if_eq 64 56)), (56, om_p (oc_aload 0 57)), (57, om_p (oc_iload 3 58)), (58, om_callv l B gM m_Mo_store 1 61), (61, om_p (oc_goto 69)), (64, om_p (oc_aload 0 65)), (65, om_p (oc_ci (2) 66)), (66, om_puti gM 0 69), (69, om_vret)]
set_option maxRecDepth 20000 in
theorem okm_Mo_multiply {l : Launch} {B : zd_B} (hG : zd_G B) (hl : l.stackTraces = false) : ∀ q ∈ cm_Mo_multiply l B, zm_ok l B gM m_Mo_multiply q.1 q.2 := by
  unfold cm_Mo_multiply
  refine zm_ac (om_pk nt_aload (ok_aload_n (l := l) (B := B) (y := m_Mo_multiply) (pc := 0) (k := 0) rfl (zd_dr dc_Mo_multiply 0 rfl))) ?_
  refine zm_ac (om_pk nt_iload (ok_iload_n (l := l) (B := B) (y := m_Mo_multiply) (pc := 1) (k := 1) rfl (zd_dr dc_Mo_multiply 1 rfl))) ?_
  refine zm_ac (ok_mcalls (ok_calls (l := l) (B := B) (y := m_Mo_multiply) (pc := 2) hG cf_Mo_multiply_Mo_no rfl (List.mem_of_getElem? (i := 964) (by decide +kernel)) (List.mem_of_getElem? (i := 965) (by decide +kernel)) (List.mem_of_getElem? (i := 64) (by decide +kernel)) (zd_dr dc_Mo_multiply 2 rfl))) ?_
  refine zm_ac (om_pk nt_if_ne (ok_if_ne (l := l) (B := B) (y := m_Mo_multiply) (pc := 5) (zd_dr dc_Mo_multiply 3 rfl) (by decide))) ?_
  refine zm_ac (om_pk nt_iload (ok_iload_n (l := l) (B := B) (y := m_Mo_multiply) (pc := 8) (k := 2) rfl (zd_dr dc_Mo_multiply 4 rfl))) ?_
  refine zm_ac (ok_mcalls (ok_calls (l := l) (B := B) (y := m_Mo_multiply) (pc := 9) hG cf_Mo_multiply_Mo_no rfl (List.mem_of_getElem? (i := 964) (by decide +kernel)) (List.mem_of_getElem? (i := 965) (by decide +kernel)) (List.mem_of_getElem? (i := 64) (by decide +kernel)) (zd_dr dc_Mo_multiply 5 rfl))) ?_
  refine zm_ac (om_pk nt_if_ne (ok_if_ne (l := l) (B := B) (y := m_Mo_multiply) (pc := 12) (zd_dr dc_Mo_multiply 6 rfl) (by decide))) ?_
  refine zm_ac (om_pk nt_iload (ok_iload_n (l := l) (B := B) (y := m_Mo_multiply) (pc := 15) (k := 3) rfl (zd_dr dc_Mo_multiply 7 rfl))) ?_
  refine zm_ac (ok_mcalls (ok_calls (l := l) (B := B) (y := m_Mo_multiply) (pc := 16) hG cf_Mo_multiply_Mo_no rfl (List.mem_of_getElem? (i := 964) (by decide +kernel)) (List.mem_of_getElem? (i := 965) (by decide +kernel)) (List.mem_of_getElem? (i := 64) (by decide +kernel)) (zd_dr dc_Mo_multiply 8 rfl))) ?_
  refine zm_ac (om_pk nt_if_eq (ok_if_eq (l := l) (B := B) (y := m_Mo_multiply) (pc := 19) (zd_dr dc_Mo_multiply 9 rfl) (by decide))) ?_
  refine zm_ac (om_pk nt_ci (ok_iconst (l := l) (B := B) (y := m_Mo_multiply) (pc := 22) (n := (1)) (zd_dr dc_Mo_multiply 10 rfl) rfl)) ?_
  refine zm_ac (om_pk nt_goto (ok_goto (l := l) (B := B) (y := m_Mo_multiply) (pc := 23) (zd_dr dc_Mo_multiply 11 rfl) (by decide))) ?_
  refine zm_ac (om_pk nt_ci (ok_iconst (l := l) (B := B) (y := m_Mo_multiply) (pc := 26) (n := (0)) (zd_dr dc_Mo_multiply 12 rfl) rfl)) ?_
  refine zm_ac (ok_mputi rfl (ok_putf (l := l) (B := B) (y := m_Mo_multiply) (pc := 27) hG (C := zR8) (T := zT8) (N := 21) (ci := 8) (k := 0) rfl zl8 zt8 (by decide) (List.mem_of_getElem? (i := 882) (by decide +kernel)) rfl (zd_dr dc_Mo_multiply 13 rfl))) ?_
  refine zm_ac (om_pk nt_aload (ok_aload_n (l := l) (B := B) (y := m_Mo_multiply) (pc := 30) (k := 0) rfl (zd_dr dc_Mo_multiply 14 rfl))) ?_
  refine zm_ac (ok_mgetf rfl (ok_getf (l := l) (B := B) (y := m_Mo_multiply) (pc := 31) hG (C := zR8) (T := zT8) (N := 21) (ci := 8) (k := 0) rfl zl8 (by decide) (List.mem_of_getElem? (i := 882) (by decide +kernel)) (zd_dr dc_Mo_multiply 15 rfl))) ?_
  refine zm_ac (om_pk nt_if_le (ok_if_le (l := l) (B := B) (y := m_Mo_multiply) (pc := 34) (zd_dr dc_Mo_multiply 16 rfl) (by decide))) ?_
  refine zm_ac (ok_mvret (ok_vret (l := l) (B := B) (y := m_Mo_multiply) (pc := 37) rfl (zd_dr dc_Mo_multiply 17 rfl))) ?_
  refine zm_ac (om_pk nt_aload (ok_aload_n (l := l) (B := B) (y := m_Mo_multiply) (pc := 38) (k := 0) rfl (zd_dr dc_Mo_multiply 18 rfl))) ?_
  refine zm_ac (om_pk nt_ci (ok_iconst (l := l) (B := B) (y := m_Mo_multiply) (pc := 39) (n := (2)) (zd_dr dc_Mo_multiply 19 rfl) rfl)) ?_
  refine zm_ac (ok_mputi rfl (ok_putf (l := l) (B := B) (y := m_Mo_multiply) (pc := 40) hG (C := zR8) (T := zT8) (N := 21) (ci := 8) (k := 20) rfl zl8 zt8 (by decide) (List.mem_of_getElem? (i := 902) (by decide +kernel)) rfl (zd_dr dc_Mo_multiply 20 rfl))) ?_
  refine zm_ac (om_pk nt_aload (ok_aload_n (l := l) (B := B) (y := m_Mo_multiply) (pc := 43) (k := 0) rfl (zd_dr dc_Mo_multiply 21 rfl))) ?_
  refine zm_ac (om_pk nt_iload (ok_iload_n (l := l) (B := B) (y := m_Mo_multiply) (pc := 44) (k := 1) rfl (zd_dr dc_Mo_multiply 22 rfl))) ?_
  refine zm_ac (ok_mcallv rfl (ok_callv (l := l) (B := B) (y := m_Mo_multiply) (pc := 45) hG (ci := 8) rfl cf_Mo_multiply_Mo_load rfl (List.mem_of_getElem? (i := 1019) (by decide +kernel)) (List.mem_of_getElem? (i := 1021) (by decide +kernel)) (List.mem_of_getElem? (i := 34) (by decide +kernel)) (zd_dr dc_Mo_multiply 23 rfl))) ?_
  refine zm_ac (om_pk nt_aload (ok_aload_n (l := l) (B := B) (y := m_Mo_multiply) (pc := 48) (k := 0) rfl (zd_dr dc_Mo_multiply 24 rfl))) ?_
  refine zm_ac (om_pk nt_iload (ok_iload_n (l := l) (B := B) (y := m_Mo_multiply) (pc := 49) (k := 2) rfl (zd_dr dc_Mo_multiply 25 rfl))) ?_
  refine zm_ac (ok_mcallv rfl (ok_callv (l := l) (B := B) (y := m_Mo_multiply) (pc := 50) hG (ci := 8) rfl cf_Mo_multiply_Mo_times rfl (List.mem_of_getElem? (i := 1023) (by decide +kernel)) (List.mem_of_getElem? (i := 1025) (by decide +kernel)) (List.mem_of_getElem? (i := 35) (by decide +kernel)) (zd_dr dc_Mo_multiply 26 rfl))) ?_
  refine zm_ac (om_pk nt_if_eq (ok_if_eq (l := l) (B := B) (y := m_Mo_multiply) (pc := 53) (zd_dr dc_Mo_multiply 27 rfl) (by decide))) ?_
  refine zm_ac (om_pk nt_aload (ok_aload_n (l := l) (B := B) (y := m_Mo_multiply) (pc := 56) (k := 0) rfl (zd_dr dc_Mo_multiply 28 rfl))) ?_
  refine zm_ac (om_pk nt_iload (ok_iload_n (l := l) (B := B) (y := m_Mo_multiply) (pc := 57) (k := 3) rfl (zd_dr dc_Mo_multiply 29 rfl))) ?_
  refine zm_ac (ok_mcallv rfl (ok_callv (l := l) (B := B) (y := m_Mo_multiply) (pc := 58) hG (ci := 8) rfl cf_Mo_multiply_Mo_store rfl (List.mem_of_getElem? (i := 980) (by decide +kernel)) (List.mem_of_getElem? (i := 982) (by decide +kernel)) (List.mem_of_getElem? (i := 29) (by decide +kernel)) (zd_dr dc_Mo_multiply 30 rfl))) ?_
  refine zm_ac (om_pk nt_goto (ok_goto (l := l) (B := B) (y := m_Mo_multiply) (pc := 61) (zd_dr dc_Mo_multiply 31 rfl) (by decide))) ?_
  refine zm_ac (om_pk nt_aload (ok_aload_n (l := l) (B := B) (y := m_Mo_multiply) (pc := 64) (k := 0) rfl (zd_dr dc_Mo_multiply 32 rfl))) ?_
  refine zm_ac (om_pk nt_ci (ok_iconst (l := l) (B := B) (y := m_Mo_multiply) (pc := 65) (n := (2)) (zd_dr dc_Mo_multiply 33 rfl) rfl)) ?_
  refine zm_ac (ok_mputi rfl (ok_putf (l := l) (B := B) (y := m_Mo_multiply) (pc := 66) hG (C := zR8) (T := zT8) (N := 21) (ci := 8) (k := 0) rfl zl8 zt8 (by decide) (List.mem_of_getElem? (i := 882) (by decide +kernel)) rfl (zd_dr dc_Mo_multiply 34 rfl))) ?_
  refine zm_ac (ok_mvret (ok_vret (l := l) (B := B) (y := m_Mo_multiply) (pc := 69) rfl (zd_dr dc_Mo_multiply 35 rfl))) ?_
  exact zm_an
def dl_Mo_power : List (Nat × Instr × Nat) := [(0, .aload_n 0, 1), (1, .iload_n 1, 1), (2, .invokestatic 113, 3), (5, .ifCond .ne (21), 3), (8, .iload_n 3, 1), (9, .invokestatic 113, 3), (12, .ifCond .ne (14), 3), (15, .iload_n 2, 1), (16, .ifCond .lt (10), 3), (19, .iload_n 2, 1), (20, .sipush (999), 3), (23, .if_icmp .le (7), 3), (26, .iconst (1), 1), (27, .goto (4), 3), (30, .iconst (0), 1), (31, .putfield 41, 3), (34, .aload_n 0, 1), (35, .getfield 41, 3), (38, .ifCond .le (4), 3), (41, .return_, 1), (42, .aload_n 0, 1), (43, .iconst (2), 1), (44, .putfield 66, 3), (47, .aload_n 0, 1), (48, .iconst (1), 1), (49, .putfield 45, 3), (52, .aload_n 0, 1), (53, .getfield 26, 3), (56, .iconst (0), 1), (57, .iconst (1), 1), (58, .iastore, 1), (59, .aload_n 0, 1), (60, .lconst 0, 1), (61, .putfield 48, 3), (64, .aload_n 0, 1), (65, .iconst (0), 1), (66, .putfield 52, 3), (69, .aload_n 0, 1), (70, .iconst (0), 1), (71, .putfield 56, 3), (74, .iconst (0), 1), (75, .istore 4, 2), (77, .iload 4, 2), (79, .iload_n 2, 1), (80, .if_icmp .ge (23), 3), (83, .aload_n 0, 1), (84, .iload_n 1, 1), (85, .invokevirtual 135, 3), (88, .ifCond .ne (9), 3), (91, .aload_n 0, 1), (92, .iconst (2), 1), (93, .putfield 41, 3), (96, .return_, 1), (97, .iinc 4 (1), 3), (100, .goto (-23), 3), (103, .aload_n 0, 1), (104, .iload_n 3, 1), (105, .invokevirtual 89, 3), (108, .return_, 1)]
theorem dc_Mo_power : ∀ q ∈ dl_Mo_power, decode (zd_yb m_Mo_power) q.1 = .ok q.2 := by decide +kernel
def cm_Mo_power (l : Launch) (B : zd_B) : List (Nat × zm_S) := [(0, om_p (oc_aload 0 1)), (1, om_p (oc_iload 1 2)), (2, om_calls l B gM m_Mo_no 1 5), (5, om_p (oc_if_ne 26 8)), (8, om_p (oc_iload 3 9)), (9, om_calls l B gM m_Mo_no 1 12), (12, om_p (oc_if_ne 26 15)), (15, om_p (oc_iload 2 16)), (16, om_p (oc_if_lt 26 19)), (19, om_p (oc_iload 2 20)), (20, om_p (oc_ci (999) 23)), (23, om_p (oc_icmp_le 30 26)), (26, om_p (oc_ci (1) 27)), (27, om_p (oc_goto 31)), (30, om_p (oc_ci (0) 31)), (31, om_puti gM 0 34), (34, om_p (oc_aload 0 35)), (35, om_getf gM 0 38), (38, om_p (oc_if_le 42 41)), (41, om_vret), (42, om_p (oc_aload 0 43)), (43, om_p (oc_ci (2) 44)), (44, om_puti gM 20 47), (47, om_p (oc_aload 0 48)), (48, om_p (oc_ci (1) 49)), (49, om_puti gM 8 52), (52, om_p (oc_aload 0 53)), (53, om_getf gM 7 56), (56, om_p (oc_ci (0) 57)), (57, om_p (oc_ci (1) 58)), (58, om_ast gM 0 cs_i 59), (59, om_p (oc_aload 0 60)), (60, om_p (oc_cl 0 61)), (61, om_putl gM 9 64), (64, om_p (oc_aload 0 65)), (65, om_p (oc_ci (0) 66)), (66, om_putb gM 10 69), (69, om_p (oc_aload 0 70)), (70, om_p (oc_ci (0) 71)), (71, om_putb gM 11 74), (74, om_p (oc_ci (0) 75)), (75, om_p (oc_istore 4 77)), (77, om_p (oc_iload 4 79)), (79, om_p (oc_iload 2 80)), (80, om_p (oc_icmp_ge 103 83)), (83, om_p (oc_aload 0 84)), (84, om_p (oc_iload 1 85)), (85, om_callv l B gM m_Mo_times 1 88), (88, om_p (oc_if_ne 97 91)), (91, om_p (oc_aload 0 92)), (92, om_p (oc_ci (2) 93)), (93, om_puti gM 0 96), (96, om_vret), (97, om_p (oc_iinc 4 (1) 100)), (100, om_p (oc_goto 77)), (103, om_p (oc_aload 0 104)), (104, om_p (oc_iload 3 105)), (105, om_callv l B gM m_Mo_store 1 108), (108, om_vret)]
set_option maxRecDepth 20000 in
theorem okm_Mo_power {l : Launch} {B : zd_B} (hG : zd_G B) (hl : l.stackTraces = false) : ∀ q ∈ cm_Mo_power l B, zm_ok l B gM m_Mo_power q.1 q.2 := by
  unfold cm_Mo_power
  refine zm_ac (om_pk nt_aload (ok_aload_n (l := l) (B := B) (y := m_Mo_power) (pc := 0) (k := 0) rfl (zd_dr dc_Mo_power 0 rfl))) ?_
  refine zm_ac (om_pk nt_iload (ok_iload_n (l := l) (B := B) (y := m_Mo_power) (pc := 1) (k := 1) rfl (zd_dr dc_Mo_power 1 rfl))) ?_
  refine zm_ac (ok_mcalls (ok_calls (l := l) (B := B) (y := m_Mo_power) (pc := 2) hG cf_Mo_power_Mo_no rfl (List.mem_of_getElem? (i := 964) (by decide +kernel)) (List.mem_of_getElem? (i := 965) (by decide +kernel)) (List.mem_of_getElem? (i := 64) (by decide +kernel)) (zd_dr dc_Mo_power 2 rfl))) ?_
  refine zm_ac (om_pk nt_if_ne (ok_if_ne (l := l) (B := B) (y := m_Mo_power) (pc := 5) (zd_dr dc_Mo_power 3 rfl) (by decide))) ?_
  refine zm_ac (om_pk nt_iload (ok_iload_n (l := l) (B := B) (y := m_Mo_power) (pc := 8) (k := 3) rfl (zd_dr dc_Mo_power 4 rfl))) ?_
  refine zm_ac (ok_mcalls (ok_calls (l := l) (B := B) (y := m_Mo_power) (pc := 9) hG cf_Mo_power_Mo_no rfl (List.mem_of_getElem? (i := 964) (by decide +kernel)) (List.mem_of_getElem? (i := 965) (by decide +kernel)) (List.mem_of_getElem? (i := 64) (by decide +kernel)) (zd_dr dc_Mo_power 5 rfl))) ?_
  refine zm_ac (om_pk nt_if_ne (ok_if_ne (l := l) (B := B) (y := m_Mo_power) (pc := 12) (zd_dr dc_Mo_power 6 rfl) (by decide))) ?_
  refine zm_ac (om_pk nt_iload (ok_iload_n (l := l) (B := B) (y := m_Mo_power) (pc := 15) (k := 2) rfl (zd_dr dc_Mo_power 7 rfl))) ?_
  refine zm_ac (om_pk nt_if_lt (ok_if_lt (l := l) (B := B) (y := m_Mo_power) (pc := 16) (zd_dr dc_Mo_power 8 rfl) (by decide))) ?_
  refine zm_ac (om_pk nt_iload (ok_iload_n (l := l) (B := B) (y := m_Mo_power) (pc := 19) (k := 2) rfl (zd_dr dc_Mo_power 9 rfl))) ?_
  refine zm_ac (om_pk nt_ci (ok_sipush (l := l) (B := B) (y := m_Mo_power) (pc := 20) (n := (999)) (zd_dr dc_Mo_power 10 rfl) rfl)) ?_
  refine zm_ac (om_pk nt_icmp_le (ok_icmp_le (l := l) (B := B) (y := m_Mo_power) (pc := 23) (zd_dr dc_Mo_power 11 rfl) (by decide))) ?_
  refine zm_ac (om_pk nt_ci (ok_iconst (l := l) (B := B) (y := m_Mo_power) (pc := 26) (n := (1)) (zd_dr dc_Mo_power 12 rfl) rfl)) ?_
  refine zm_ac (om_pk nt_goto (ok_goto (l := l) (B := B) (y := m_Mo_power) (pc := 27) (zd_dr dc_Mo_power 13 rfl) (by decide))) ?_
  refine zm_ac (om_pk nt_ci (ok_iconst (l := l) (B := B) (y := m_Mo_power) (pc := 30) (n := (0)) (zd_dr dc_Mo_power 14 rfl) rfl)) ?_
  refine zm_ac (ok_mputi rfl (ok_putf (l := l) (B := B) (y := m_Mo_power) (pc := 31) hG (C := zR8) (T := zT8) (N := 21) (ci := 8) (k := 0) rfl zl8 zt8 (by decide) (List.mem_of_getElem? (i := 882) (by decide +kernel)) rfl (zd_dr dc_Mo_power 15 rfl))) ?_
  refine zm_ac (om_pk nt_aload (ok_aload_n (l := l) (B := B) (y := m_Mo_power) (pc := 34) (k := 0) rfl (zd_dr dc_Mo_power 16 rfl))) ?_
  refine zm_ac (ok_mgetf rfl (ok_getf (l := l) (B := B) (y := m_Mo_power) (pc := 35) hG (C := zR8) (T := zT8) (N := 21) (ci := 8) (k := 0) rfl zl8 (by decide) (List.mem_of_getElem? (i := 882) (by decide +kernel)) (zd_dr dc_Mo_power 17 rfl))) ?_
  refine zm_ac (om_pk nt_if_le (ok_if_le (l := l) (B := B) (y := m_Mo_power) (pc := 38) (zd_dr dc_Mo_power 18 rfl) (by decide))) ?_
  refine zm_ac (ok_mvret (ok_vret (l := l) (B := B) (y := m_Mo_power) (pc := 41) rfl (zd_dr dc_Mo_power 19 rfl))) ?_
  refine zm_ac (om_pk nt_aload (ok_aload_n (l := l) (B := B) (y := m_Mo_power) (pc := 42) (k := 0) rfl (zd_dr dc_Mo_power 20 rfl))) ?_
  refine zm_ac (om_pk nt_ci (ok_iconst (l := l) (B := B) (y := m_Mo_power) (pc := 43) (n := (2)) (zd_dr dc_Mo_power 21 rfl) rfl)) ?_
  refine zm_ac (ok_mputi rfl (ok_putf (l := l) (B := B) (y := m_Mo_power) (pc := 44) hG (C := zR8) (T := zT8) (N := 21) (ci := 8) (k := 20) rfl zl8 zt8 (by decide) (List.mem_of_getElem? (i := 902) (by decide +kernel)) rfl (zd_dr dc_Mo_power 22 rfl))) ?_
  refine zm_ac (om_pk nt_aload (ok_aload_n (l := l) (B := B) (y := m_Mo_power) (pc := 47) (k := 0) rfl (zd_dr dc_Mo_power 23 rfl))) ?_
  refine zm_ac (om_pk nt_ci (ok_iconst (l := l) (B := B) (y := m_Mo_power) (pc := 48) (n := (1)) (zd_dr dc_Mo_power 24 rfl) rfl)) ?_
  refine zm_ac (ok_mputi rfl (ok_putf (l := l) (B := B) (y := m_Mo_power) (pc := 49) hG (C := zR8) (T := zT8) (N := 21) (ci := 8) (k := 8) rfl zl8 zt8 (by decide) (List.mem_of_getElem? (i := 890) (by decide +kernel)) rfl (zd_dr dc_Mo_power 25 rfl))) ?_
  refine zm_ac (om_pk nt_aload (ok_aload_n (l := l) (B := B) (y := m_Mo_power) (pc := 52) (k := 0) rfl (zd_dr dc_Mo_power 26 rfl))) ?_
  refine zm_ac (ok_mgetf rfl (ok_getf (l := l) (B := B) (y := m_Mo_power) (pc := 53) hG (C := zR8) (T := zT8) (N := 21) (ci := 8) (k := 7) rfl zl8 (by decide) (List.mem_of_getElem? (i := 889) (by decide +kernel)) (zd_dr dc_Mo_power 27 rfl))) ?_
  refine zm_ac (om_pk nt_ci (ok_iconst (l := l) (B := B) (y := m_Mo_power) (pc := 56) (n := (0)) (zd_dr dc_Mo_power 28 rfl) rfl)) ?_
  refine zm_ac (om_pk nt_ci (ok_iconst (l := l) (B := B) (y := m_Mo_power) (pc := 57) (n := (1)) (zd_dr dc_Mo_power 29 rfl) rfl)) ?_
  refine zm_ac (ok_miastore (ok_iastore (l := l) (B := B) (y := m_Mo_power) (pc := 58) hG (zd_dr dc_Mo_power 30 rfl))) ?_
  refine zm_ac (om_pk nt_aload (ok_aload_n (l := l) (B := B) (y := m_Mo_power) (pc := 59) (k := 0) rfl (zd_dr dc_Mo_power 31 rfl))) ?_
  refine zm_ac (om_pk nt_cl (ok_lconst (l := l) (B := B) (y := m_Mo_power) (pc := 60) (n := 0) (zd_dr dc_Mo_power 32 rfl) rfl)) ?_
  refine zm_ac (ok_mputl rfl (ok_putf (l := l) (B := B) (y := m_Mo_power) (pc := 61) hG (C := zR8) (T := zT8) (N := 21) (ci := 8) (k := 9) rfl zl8 zt8 (by decide) (List.mem_of_getElem? (i := 891) (by decide +kernel)) rfl (zd_dr dc_Mo_power 33 rfl))) ?_
  refine zm_ac (om_pk nt_aload (ok_aload_n (l := l) (B := B) (y := m_Mo_power) (pc := 64) (k := 0) rfl (zd_dr dc_Mo_power 34 rfl))) ?_
  refine zm_ac (om_pk nt_ci (ok_iconst (l := l) (B := B) (y := m_Mo_power) (pc := 65) (n := (0)) (zd_dr dc_Mo_power 35 rfl) rfl)) ?_
  refine zm_ac (ok_mputb rfl (ok_putf (l := l) (B := B) (y := m_Mo_power) (pc := 66) hG (C := zR8) (T := zT8) (N := 21) (ci := 8) (k := 10) rfl zl8 zt8 (by decide) (List.mem_of_getElem? (i := 892) (by decide +kernel)) rfl (zd_dr dc_Mo_power 36 rfl))) ?_
  refine zm_ac (om_pk nt_aload (ok_aload_n (l := l) (B := B) (y := m_Mo_power) (pc := 69) (k := 0) rfl (zd_dr dc_Mo_power 37 rfl))) ?_
  refine zm_ac (om_pk nt_ci (ok_iconst (l := l) (B := B) (y := m_Mo_power) (pc := 70) (n := (0)) (zd_dr dc_Mo_power 38 rfl) rfl)) ?_
  refine zm_ac (ok_mputb rfl (ok_putf (l := l) (B := B) (y := m_Mo_power) (pc := 71) hG (C := zR8) (T := zT8) (N := 21) (ci := 8) (k := 11) rfl zl8 zt8 (by decide) (List.mem_of_getElem? (i := 893) (by decide +kernel)) rfl (zd_dr dc_Mo_power 39 rfl))) ?_
  refine zm_ac (om_pk nt_ci (ok_iconst (l := l) (B := B) (y := m_Mo_power) (pc := 74) (n := (0)) (zd_dr dc_Mo_power 40 rfl) rfl)) ?_
  refine zm_ac (om_pk nt_istore (ok_istore (l := l) (B := B) (y := m_Mo_power) (pc := 75) (zd_dr dc_Mo_power 41 rfl) (by decide))) ?_
  refine zm_ac (om_pk nt_iload (ok_iload (l := l) (B := B) (y := m_Mo_power) (pc := 77) (zd_dr dc_Mo_power 42 rfl))) ?_
  refine zm_ac (om_pk nt_iload (ok_iload_n (l := l) (B := B) (y := m_Mo_power) (pc := 79) (k := 2) rfl (zd_dr dc_Mo_power 43 rfl))) ?_
  refine zm_ac (om_pk nt_icmp_ge (ok_icmp_ge (l := l) (B := B) (y := m_Mo_power) (pc := 80) (zd_dr dc_Mo_power 44 rfl) (by decide))) ?_
  refine zm_ac (om_pk nt_aload (ok_aload_n (l := l) (B := B) (y := m_Mo_power) (pc := 83) (k := 0) rfl (zd_dr dc_Mo_power 45 rfl))) ?_
  refine zm_ac (om_pk nt_iload (ok_iload_n (l := l) (B := B) (y := m_Mo_power) (pc := 84) (k := 1) rfl (zd_dr dc_Mo_power 46 rfl))) ?_
  refine zm_ac (ok_mcallv rfl (ok_callv (l := l) (B := B) (y := m_Mo_power) (pc := 85) hG (ci := 8) rfl cf_Mo_power_Mo_times rfl (List.mem_of_getElem? (i := 1023) (by decide +kernel)) (List.mem_of_getElem? (i := 1025) (by decide +kernel)) (List.mem_of_getElem? (i := 35) (by decide +kernel)) (zd_dr dc_Mo_power 47 rfl))) ?_
  refine zm_ac (om_pk nt_if_ne (ok_if_ne (l := l) (B := B) (y := m_Mo_power) (pc := 88) (zd_dr dc_Mo_power 48 rfl) (by decide))) ?_
  refine zm_ac (om_pk nt_aload (ok_aload_n (l := l) (B := B) (y := m_Mo_power) (pc := 91) (k := 0) rfl (zd_dr dc_Mo_power 49 rfl))) ?_
  refine zm_ac (om_pk nt_ci (ok_iconst (l := l) (B := B) (y := m_Mo_power) (pc := 92) (n := (2)) (zd_dr dc_Mo_power 50 rfl) rfl)) ?_
  refine zm_ac (ok_mputi rfl (ok_putf (l := l) (B := B) (y := m_Mo_power) (pc := 93) hG (C := zR8) (T := zT8) (N := 21) (ci := 8) (k := 0) rfl zl8 zt8 (by decide) (List.mem_of_getElem? (i := 882) (by decide +kernel)) rfl (zd_dr dc_Mo_power 51 rfl))) ?_
  refine zm_ac (ok_mvret (ok_vret (l := l) (B := B) (y := m_Mo_power) (pc := 96) rfl (zd_dr dc_Mo_power 52 rfl))) ?_
  refine zm_ac (om_pk nt_iinc (ok_iinc (l := l) (B := B) (y := m_Mo_power) (pc := 97) (zd_dr dc_Mo_power 53 rfl) (by decide) rfl)) ?_
  refine zm_ac (om_pk nt_goto (ok_goto (l := l) (B := B) (y := m_Mo_power) (pc := 100) (zd_dr dc_Mo_power 54 rfl) (by decide))) ?_
  refine zm_ac (om_pk nt_aload (ok_aload_n (l := l) (B := B) (y := m_Mo_power) (pc := 103) (k := 0) rfl (zd_dr dc_Mo_power 55 rfl))) ?_
  refine zm_ac (om_pk nt_iload (ok_iload_n (l := l) (B := B) (y := m_Mo_power) (pc := 104) (k := 3) rfl (zd_dr dc_Mo_power 56 rfl))) ?_
  refine zm_ac (ok_mcallv rfl (ok_callv (l := l) (B := B) (y := m_Mo_power) (pc := 105) hG (ci := 8) rfl cf_Mo_power_Mo_store rfl (List.mem_of_getElem? (i := 980) (by decide +kernel)) (List.mem_of_getElem? (i := 982) (by decide +kernel)) (List.mem_of_getElem? (i := 29) (by decide +kernel)) (zd_dr dc_Mo_power 57 rfl))) ?_
  refine zm_ac (ok_mvret (ok_vret (l := l) (B := B) (y := m_Mo_power) (pc := 108) rfl (zd_dr dc_Mo_power 58 rfl))) ?_
  exact zm_an
def dl_Mo_loadUnder : List (Nat × Instr × Nat) := [(0, .aload_n 0, 1), (1, .aload_n 0, 1), (2, .getfield 16, 3), (5, .iload_n 1, 1), (6, .iaload, 1), (7, .iload_n 2, 1), (8, .iadd, 1), (9, .putfield 138, 3), (12, .iconst (0), 1), (13, .istore_n 3, 1), (14, .iload_n 3, 1), (15, .aload_n 0, 1), (16, .getfield 138, 3), (19, .if_icmp .ge (41), 3), (22, .aload_n 0, 1), (23, .getfield 32, 3), (26, .iload_n 3, 1), (27, .iload_n 3, 1), (28, .aload_n 0, 1), (29, .getfield 16, 3), (32, .iload_n 1, 1), (33, .iaload, 1), (34, .if_icmp .ge (18), 3), (37, .aload_n 0, 1), (38, .getfield 13, 3), (41, .sipush (1000), 3), (44, .iload_n 1, 1), (45, .imul, 1), (46, .iload_n 3, 1), (47, .iadd, 1), (48, .iaload, 1), (49, .goto (4), 3), (52, .iconst (0), 1), (53, .iastore, 1), (54, .iinc 3 (1), 3), (57, .goto (-43), 3), (60, .return_, 1)]
theorem dc_Mo_loadUnder : ∀ q ∈ dl_Mo_loadUnder, decode (zd_yb m_Mo_loadUnder) q.1 = .ok q.2 := by decide +kernel
def cm_Mo_loadUnder (l : Launch) (B : zd_B) : List (Nat × zm_S) := [(0, om_p (oc_aload 0 1)), (1, om_p (oc_aload 0 2)), (2, om_getf gM 4 5), (5, om_p (oc_iload 1 6)), (6, om_ald gM 0 7), (7, om_p (oc_iload 2 8)), (8, om_p (oc_iadd 9)), (9, om_puti gM 15 12), (12, om_p (oc_ci (0) 13)), (13, om_p (oc_istore 3 14)), (14, om_p (oc_iload 3 15)), (15, om_p (oc_aload 0 16)), (16, om_getf gM 15 19), (19, om_p (oc_icmp_ge 60 22)), (22, om_p (oc_aload 0 23)), (23, om_getf gM 14 26), (26, om_p (oc_iload 3 27)), (27, om_p (oc_iload 3 28)), (28, om_p (oc_aload 0 29)), (29, om_getf gM 4 32), (32, om_p (oc_iload 1 33)), (33, om_ald gM 0 34), (34, om_p (oc_icmp_ge 52 37)), (37, om_p (oc_aload 0 38)), (38, om_getf gM 3 41), (41, om_p (oc_ci (1000) 44)), (44, om_p (oc_iload 1 45)), (45, om_p (oc_imul 46)), (46, om_p (oc_iload 3 47)), (47, om_p (oc_iadd 48)), (48, om_ald gM 0 49), (49, om_p (oc_goto 53)), (52, om_p (oc_ci (0) 53)), (53, om_ast gM 0 cs_i 54), (54, om_p (oc_iinc 3 (1) 57)), (57, om_p (oc_goto 14)), (60, om_vret)]
set_option maxRecDepth 20000 in
theorem okm_Mo_loadUnder {l : Launch} {B : zd_B} (hG : zd_G B) (hl : l.stackTraces = false) : ∀ q ∈ cm_Mo_loadUnder l B, zm_ok l B gM m_Mo_loadUnder q.1 q.2 := by
  unfold cm_Mo_loadUnder
  refine zm_ac (om_pk nt_aload (ok_aload_n (l := l) (B := B) (y := m_Mo_loadUnder) (pc := 0) (k := 0) rfl (zd_dr dc_Mo_loadUnder 0 rfl))) ?_
  refine zm_ac (om_pk nt_aload (ok_aload_n (l := l) (B := B) (y := m_Mo_loadUnder) (pc := 1) (k := 0) rfl (zd_dr dc_Mo_loadUnder 1 rfl))) ?_
  refine zm_ac (ok_mgetf rfl (ok_getf (l := l) (B := B) (y := m_Mo_loadUnder) (pc := 2) hG (C := zR8) (T := zT8) (N := 21) (ci := 8) (k := 4) rfl zl8 (by decide) (List.mem_of_getElem? (i := 886) (by decide +kernel)) (zd_dr dc_Mo_loadUnder 2 rfl))) ?_
  refine zm_ac (om_pk nt_iload (ok_iload_n (l := l) (B := B) (y := m_Mo_loadUnder) (pc := 5) (k := 1) rfl (zd_dr dc_Mo_loadUnder 3 rfl))) ?_
  refine zm_ac (ok_miaload (ok_iaload (l := l) (B := B) (y := m_Mo_loadUnder) (pc := 6) hG (zd_dr dc_Mo_loadUnder 4 rfl))) ?_
  refine zm_ac (om_pk nt_iload (ok_iload_n (l := l) (B := B) (y := m_Mo_loadUnder) (pc := 7) (k := 2) rfl (zd_dr dc_Mo_loadUnder 5 rfl))) ?_
  refine zm_ac (om_pk nt_iadd (ok_iadd (l := l) (B := B) (y := m_Mo_loadUnder) (pc := 8) (zd_dr dc_Mo_loadUnder 6 rfl))) ?_
  refine zm_ac (ok_mputi rfl (ok_putf (l := l) (B := B) (y := m_Mo_loadUnder) (pc := 9) hG (C := zR8) (T := zT8) (N := 21) (ci := 8) (k := 15) rfl zl8 zt8 (by decide) (List.mem_of_getElem? (i := 897) (by decide +kernel)) rfl (zd_dr dc_Mo_loadUnder 7 rfl))) ?_
  refine zm_ac (om_pk nt_ci (ok_iconst (l := l) (B := B) (y := m_Mo_loadUnder) (pc := 12) (n := (0)) (zd_dr dc_Mo_loadUnder 8 rfl) rfl)) ?_
  refine zm_ac (om_pk nt_istore (ok_istore_n (l := l) (B := B) (y := m_Mo_loadUnder) (pc := 13) (k := 3) rfl (zd_dr dc_Mo_loadUnder 9 rfl) (by decide))) ?_
  refine zm_ac (om_pk nt_iload (ok_iload_n (l := l) (B := B) (y := m_Mo_loadUnder) (pc := 14) (k := 3) rfl (zd_dr dc_Mo_loadUnder 10 rfl))) ?_
  refine zm_ac (om_pk nt_aload (ok_aload_n (l := l) (B := B) (y := m_Mo_loadUnder) (pc := 15) (k := 0) rfl (zd_dr dc_Mo_loadUnder 11 rfl))) ?_
  refine zm_ac (ok_mgetf rfl (ok_getf (l := l) (B := B) (y := m_Mo_loadUnder) (pc := 16) hG (C := zR8) (T := zT8) (N := 21) (ci := 8) (k := 15) rfl zl8 (by decide) (List.mem_of_getElem? (i := 897) (by decide +kernel)) (zd_dr dc_Mo_loadUnder 12 rfl))) ?_
  refine zm_ac (om_pk nt_icmp_ge (ok_icmp_ge (l := l) (B := B) (y := m_Mo_loadUnder) (pc := 19) (zd_dr dc_Mo_loadUnder 13 rfl) (by decide))) ?_
  refine zm_ac (om_pk nt_aload (ok_aload_n (l := l) (B := B) (y := m_Mo_loadUnder) (pc := 22) (k := 0) rfl (zd_dr dc_Mo_loadUnder 14 rfl))) ?_
  refine zm_ac (ok_mgetf rfl (ok_getf (l := l) (B := B) (y := m_Mo_loadUnder) (pc := 23) hG (C := zR8) (T := zT8) (N := 21) (ci := 8) (k := 14) rfl zl8 (by decide) (List.mem_of_getElem? (i := 896) (by decide +kernel)) (zd_dr dc_Mo_loadUnder 15 rfl))) ?_
  refine zm_ac (om_pk nt_iload (ok_iload_n (l := l) (B := B) (y := m_Mo_loadUnder) (pc := 26) (k := 3) rfl (zd_dr dc_Mo_loadUnder 16 rfl))) ?_
  refine zm_ac (om_pk nt_iload (ok_iload_n (l := l) (B := B) (y := m_Mo_loadUnder) (pc := 27) (k := 3) rfl (zd_dr dc_Mo_loadUnder 17 rfl))) ?_
  refine zm_ac (om_pk nt_aload (ok_aload_n (l := l) (B := B) (y := m_Mo_loadUnder) (pc := 28) (k := 0) rfl (zd_dr dc_Mo_loadUnder 18 rfl))) ?_
  refine zm_ac (ok_mgetf rfl (ok_getf (l := l) (B := B) (y := m_Mo_loadUnder) (pc := 29) hG (C := zR8) (T := zT8) (N := 21) (ci := 8) (k := 4) rfl zl8 (by decide) (List.mem_of_getElem? (i := 886) (by decide +kernel)) (zd_dr dc_Mo_loadUnder 19 rfl))) ?_
  refine zm_ac (om_pk nt_iload (ok_iload_n (l := l) (B := B) (y := m_Mo_loadUnder) (pc := 32) (k := 1) rfl (zd_dr dc_Mo_loadUnder 20 rfl))) ?_
  refine zm_ac (ok_miaload (ok_iaload (l := l) (B := B) (y := m_Mo_loadUnder) (pc := 33) hG (zd_dr dc_Mo_loadUnder 21 rfl))) ?_
  refine zm_ac (om_pk nt_icmp_ge (ok_icmp_ge (l := l) (B := B) (y := m_Mo_loadUnder) (pc := 34) (zd_dr dc_Mo_loadUnder 22 rfl) (by decide))) ?_
  refine zm_ac (om_pk nt_aload (ok_aload_n (l := l) (B := B) (y := m_Mo_loadUnder) (pc := 37) (k := 0) rfl (zd_dr dc_Mo_loadUnder 23 rfl))) ?_
  refine zm_ac (ok_mgetf rfl (ok_getf (l := l) (B := B) (y := m_Mo_loadUnder) (pc := 38) hG (C := zR8) (T := zT8) (N := 21) (ci := 8) (k := 3) rfl zl8 (by decide) (List.mem_of_getElem? (i := 885) (by decide +kernel)) (zd_dr dc_Mo_loadUnder 24 rfl))) ?_
  refine zm_ac (om_pk nt_ci (ok_sipush (l := l) (B := B) (y := m_Mo_loadUnder) (pc := 41) (n := (1000)) (zd_dr dc_Mo_loadUnder 25 rfl) rfl)) ?_
  refine zm_ac (om_pk nt_iload (ok_iload_n (l := l) (B := B) (y := m_Mo_loadUnder) (pc := 44) (k := 1) rfl (zd_dr dc_Mo_loadUnder 26 rfl))) ?_
  refine zm_ac (om_pk nt_imul (ok_imul (l := l) (B := B) (y := m_Mo_loadUnder) (pc := 45) (zd_dr dc_Mo_loadUnder 27 rfl))) ?_
  refine zm_ac (om_pk nt_iload (ok_iload_n (l := l) (B := B) (y := m_Mo_loadUnder) (pc := 46) (k := 3) rfl (zd_dr dc_Mo_loadUnder 28 rfl))) ?_
  refine zm_ac (om_pk nt_iadd (ok_iadd (l := l) (B := B) (y := m_Mo_loadUnder) (pc := 47) (zd_dr dc_Mo_loadUnder 29 rfl))) ?_
  refine zm_ac (ok_miaload (ok_iaload (l := l) (B := B) (y := m_Mo_loadUnder) (pc := 48) hG (zd_dr dc_Mo_loadUnder 30 rfl))) ?_
  refine zm_ac (om_pk nt_goto (ok_goto (l := l) (B := B) (y := m_Mo_loadUnder) (pc := 49) (zd_dr dc_Mo_loadUnder 31 rfl) (by decide))) ?_
  refine zm_ac (om_pk nt_ci (ok_iconst (l := l) (B := B) (y := m_Mo_loadUnder) (pc := 52) (n := (0)) (zd_dr dc_Mo_loadUnder 32 rfl) rfl)) ?_
  refine zm_ac (ok_miastore (ok_iastore (l := l) (B := B) (y := m_Mo_loadUnder) (pc := 53) hG (zd_dr dc_Mo_loadUnder 33 rfl))) ?_
  refine zm_ac (om_pk nt_iinc (ok_iinc (l := l) (B := B) (y := m_Mo_loadUnder) (pc := 54) (zd_dr dc_Mo_loadUnder 34 rfl) (by decide) rfl)) ?_
  refine zm_ac (om_pk nt_goto (ok_goto (l := l) (B := B) (y := m_Mo_loadUnder) (pc := 57) (zd_dr dc_Mo_loadUnder 35 rfl) (by decide))) ?_
  refine zm_ac (ok_mvret (ok_vret (l := l) (B := B) (y := m_Mo_loadUnder) (pc := 60) rfl (zd_dr dc_Mo_loadUnder 36 rfl))) ?_
  exact zm_an
def dl_Mo_reaches : List (Nat × Instr × Nat) := [(0, .aload_n 0, 1), (1, .getfield 35, 3), (4, .iconst (0), 1), (5, .iaload, 1), (6, .ifCond .eq (5), 3), (9, .iconst (1), 1), (10, .ireturn, 1), (11, .iconst (0), 1), (12, .istore_n 1, 1), (13, .iload_n 1, 1), (14, .aload_n 0, 1), (15, .getfield 138, 3), (18, .if_icmp .ge (49), 3), (21, .aload_n 0, 1), (22, .getfield 35, 3), (25, .iload_n 1, 1), (26, .iconst (1), 1), (27, .iadd, 1), (28, .iaload, 1), (29, .aload_n 0, 1), (30, .getfield 32, 3), (33, .iload_n 1, 1), (34, .iaload, 1), (35, .if_icmp .eq (26), 3), (38, .aload_n 0, 1), (39, .getfield 35, 3), (42, .iload_n 1, 1), (43, .iconst (1), 1), (44, .iadd, 1), (45, .iaload, 1), (46, .aload_n 0, 1), (47, .getfield 32, 3), (50, .iload_n 1, 1), (51, .iaload, 1), (52, .if_icmp .le (7), 3), (55, .iconst (1), 1), (56, .goto (4), 3), (59, .iconst (0), 1), (60, .ireturn, 1), (61, .iinc 1 (1), 3), (64, .goto (-51), 3), (67, .iconst (1), 1), (68, .ireturn, 1)]
theorem dc_Mo_reaches : ∀ q ∈ dl_Mo_reaches, decode (zd_yb m_Mo_reaches) q.1 = .ok q.2 := by decide +kernel
def cm_Mo_reaches (l : Launch) (B : zd_B) : List (Nat × zm_S) := [(0, om_p (oc_aload 0 1)), (1, om_getf gM 16 4), (4, om_p (oc_ci (0) 5)), (5, om_ald gM 0 6), (6, om_p (oc_if_eq 11 9)), (9, om_p (oc_ci (1) 10)), (10, om_zret), (11, om_p (oc_ci (0) 12)), (12, om_p (oc_istore 1 13)), (13, om_p (oc_iload 1 14)), (14, om_p (oc_aload 0 15)), (15, om_getf gM 15 18), (18, om_p (oc_icmp_ge 67 21)), (21, om_p (oc_aload 0 22)), (22, om_getf gM 16 25), (25, om_p (oc_iload 1 26)), (26, om_p (oc_ci (1) 27)), (27, om_p (oc_iadd 28)), (28, om_ald gM 0 29), (29, om_p (oc_aload 0 30)), (30, om_getf gM 14 33), (33, om_p (oc_iload 1 34)), (34, om_ald gM 0 35), (35, om_p (oc_icmp_eq 61 38)), (38, om_p (oc_aload 0 39)), (39, om_getf gM 16 42), (42, om_p (oc_iload 1 43)), (43, om_p (oc_ci (1) 44)), (44, om_p (oc_iadd 45)), (45, om_ald gM 0 46), (46, om_p (oc_aload 0 47)), (47, om_getf gM 14 50), (50, om_p (oc_iload 1 51)), (51, om_ald gM 0 52), (52, om_p (oc_icmp_le 59 55)), (55, om_p (oc_ci (1) 56)), (56, om_p (oc_goto 60)), (59, om_p (oc_ci (0) 60)), (60, om_zret), (61, om_p (oc_iinc 1 (1) 64)), (64, om_p (oc_goto 13)), (67, om_p (oc_ci (1) 68)), (68, om_zret)]
set_option maxRecDepth 20000 in
theorem okm_Mo_reaches {l : Launch} {B : zd_B} (hG : zd_G B) (hl : l.stackTraces = false) : ∀ q ∈ cm_Mo_reaches l B, zm_ok l B gM m_Mo_reaches q.1 q.2 := by
  unfold cm_Mo_reaches
  refine zm_ac (om_pk nt_aload (ok_aload_n (l := l) (B := B) (y := m_Mo_reaches) (pc := 0) (k := 0) rfl (zd_dr dc_Mo_reaches 0 rfl))) ?_
  refine zm_ac (ok_mgetf rfl (ok_getf (l := l) (B := B) (y := m_Mo_reaches) (pc := 1) hG (C := zR8) (T := zT8) (N := 21) (ci := 8) (k := 16) rfl zl8 (by decide) (List.mem_of_getElem? (i := 898) (by decide +kernel)) (zd_dr dc_Mo_reaches 1 rfl))) ?_
  refine zm_ac (om_pk nt_ci (ok_iconst (l := l) (B := B) (y := m_Mo_reaches) (pc := 4) (n := (0)) (zd_dr dc_Mo_reaches 2 rfl) rfl)) ?_
  refine zm_ac (ok_miaload (ok_iaload (l := l) (B := B) (y := m_Mo_reaches) (pc := 5) hG (zd_dr dc_Mo_reaches 3 rfl))) ?_
  refine zm_ac (om_pk nt_if_eq (ok_if_eq (l := l) (B := B) (y := m_Mo_reaches) (pc := 6) (zd_dr dc_Mo_reaches 4 rfl) (by decide))) ?_
  refine zm_ac (om_pk nt_ci (ok_iconst (l := l) (B := B) (y := m_Mo_reaches) (pc := 9) (n := (1)) (zd_dr dc_Mo_reaches 5 rfl) rfl)) ?_
  refine zm_ac (ok_mzret (ok_iret (l := l) (B := B) (y := m_Mo_reaches) (pc := 10) rfl (zd_dr dc_Mo_reaches 6 rfl))) ?_
  refine zm_ac (om_pk nt_ci (ok_iconst (l := l) (B := B) (y := m_Mo_reaches) (pc := 11) (n := (0)) (zd_dr dc_Mo_reaches 7 rfl) rfl)) ?_
  refine zm_ac (om_pk nt_istore (ok_istore_n (l := l) (B := B) (y := m_Mo_reaches) (pc := 12) (k := 1) rfl (zd_dr dc_Mo_reaches 8 rfl) (by decide))) ?_
  refine zm_ac (om_pk nt_iload (ok_iload_n (l := l) (B := B) (y := m_Mo_reaches) (pc := 13) (k := 1) rfl (zd_dr dc_Mo_reaches 9 rfl))) ?_
  refine zm_ac (om_pk nt_aload (ok_aload_n (l := l) (B := B) (y := m_Mo_reaches) (pc := 14) (k := 0) rfl (zd_dr dc_Mo_reaches 10 rfl))) ?_
  refine zm_ac (ok_mgetf rfl (ok_getf (l := l) (B := B) (y := m_Mo_reaches) (pc := 15) hG (C := zR8) (T := zT8) (N := 21) (ci := 8) (k := 15) rfl zl8 (by decide) (List.mem_of_getElem? (i := 897) (by decide +kernel)) (zd_dr dc_Mo_reaches 11 rfl))) ?_
  refine zm_ac (om_pk nt_icmp_ge (ok_icmp_ge (l := l) (B := B) (y := m_Mo_reaches) (pc := 18) (zd_dr dc_Mo_reaches 12 rfl) (by decide))) ?_
  refine zm_ac (om_pk nt_aload (ok_aload_n (l := l) (B := B) (y := m_Mo_reaches) (pc := 21) (k := 0) rfl (zd_dr dc_Mo_reaches 13 rfl))) ?_
  refine zm_ac (ok_mgetf rfl (ok_getf (l := l) (B := B) (y := m_Mo_reaches) (pc := 22) hG (C := zR8) (T := zT8) (N := 21) (ci := 8) (k := 16) rfl zl8 (by decide) (List.mem_of_getElem? (i := 898) (by decide +kernel)) (zd_dr dc_Mo_reaches 14 rfl))) ?_
  refine zm_ac (om_pk nt_iload (ok_iload_n (l := l) (B := B) (y := m_Mo_reaches) (pc := 25) (k := 1) rfl (zd_dr dc_Mo_reaches 15 rfl))) ?_
  refine zm_ac (om_pk nt_ci (ok_iconst (l := l) (B := B) (y := m_Mo_reaches) (pc := 26) (n := (1)) (zd_dr dc_Mo_reaches 16 rfl) rfl)) ?_
  refine zm_ac (om_pk nt_iadd (ok_iadd (l := l) (B := B) (y := m_Mo_reaches) (pc := 27) (zd_dr dc_Mo_reaches 17 rfl))) ?_
  refine zm_ac (ok_miaload (ok_iaload (l := l) (B := B) (y := m_Mo_reaches) (pc := 28) hG (zd_dr dc_Mo_reaches 18 rfl))) ?_
  refine zm_ac (om_pk nt_aload (ok_aload_n (l := l) (B := B) (y := m_Mo_reaches) (pc := 29) (k := 0) rfl (zd_dr dc_Mo_reaches 19 rfl))) ?_
  refine zm_ac (ok_mgetf rfl (ok_getf (l := l) (B := B) (y := m_Mo_reaches) (pc := 30) hG (C := zR8) (T := zT8) (N := 21) (ci := 8) (k := 14) rfl zl8 (by decide) (List.mem_of_getElem? (i := 896) (by decide +kernel)) (zd_dr dc_Mo_reaches 20 rfl))) ?_
  refine zm_ac (om_pk nt_iload (ok_iload_n (l := l) (B := B) (y := m_Mo_reaches) (pc := 33) (k := 1) rfl (zd_dr dc_Mo_reaches 21 rfl))) ?_
  refine zm_ac (ok_miaload (ok_iaload (l := l) (B := B) (y := m_Mo_reaches) (pc := 34) hG (zd_dr dc_Mo_reaches 22 rfl))) ?_
  refine zm_ac (om_pk nt_icmp_eq (ok_icmp_eq (l := l) (B := B) (y := m_Mo_reaches) (pc := 35) (zd_dr dc_Mo_reaches 23 rfl) (by decide))) ?_
  refine zm_ac (om_pk nt_aload (ok_aload_n (l := l) (B := B) (y := m_Mo_reaches) (pc := 38) (k := 0) rfl (zd_dr dc_Mo_reaches 24 rfl))) ?_
  refine zm_ac (ok_mgetf rfl (ok_getf (l := l) (B := B) (y := m_Mo_reaches) (pc := 39) hG (C := zR8) (T := zT8) (N := 21) (ci := 8) (k := 16) rfl zl8 (by decide) (List.mem_of_getElem? (i := 898) (by decide +kernel)) (zd_dr dc_Mo_reaches 25 rfl))) ?_
  refine zm_ac (om_pk nt_iload (ok_iload_n (l := l) (B := B) (y := m_Mo_reaches) (pc := 42) (k := 1) rfl (zd_dr dc_Mo_reaches 26 rfl))) ?_
  refine zm_ac (om_pk nt_ci (ok_iconst (l := l) (B := B) (y := m_Mo_reaches) (pc := 43) (n := (1)) (zd_dr dc_Mo_reaches 27 rfl) rfl)) ?_
  refine zm_ac (om_pk nt_iadd (ok_iadd (l := l) (B := B) (y := m_Mo_reaches) (pc := 44) (zd_dr dc_Mo_reaches 28 rfl))) ?_
  refine zm_ac (ok_miaload (ok_iaload (l := l) (B := B) (y := m_Mo_reaches) (pc := 45) hG (zd_dr dc_Mo_reaches 29 rfl))) ?_
  refine zm_ac (om_pk nt_aload (ok_aload_n (l := l) (B := B) (y := m_Mo_reaches) (pc := 46) (k := 0) rfl (zd_dr dc_Mo_reaches 30 rfl))) ?_
  refine zm_ac (ok_mgetf rfl (ok_getf (l := l) (B := B) (y := m_Mo_reaches) (pc := 47) hG (C := zR8) (T := zT8) (N := 21) (ci := 8) (k := 14) rfl zl8 (by decide) (List.mem_of_getElem? (i := 896) (by decide +kernel)) (zd_dr dc_Mo_reaches 31 rfl))) ?_
  refine zm_ac (om_pk nt_iload (ok_iload_n (l := l) (B := B) (y := m_Mo_reaches) (pc := 50) (k := 1) rfl (zd_dr dc_Mo_reaches 32 rfl))) ?_
  refine zm_ac (ok_miaload (ok_iaload (l := l) (B := B) (y := m_Mo_reaches) (pc := 51) hG (zd_dr dc_Mo_reaches 33 rfl))) ?_
  refine zm_ac (om_pk nt_icmp_le (ok_icmp_le (l := l) (B := B) (y := m_Mo_reaches) (pc := 52) (zd_dr dc_Mo_reaches 34 rfl) (by decide))) ?_
  refine zm_ac (om_pk nt_ci (ok_iconst (l := l) (B := B) (y := m_Mo_reaches) (pc := 55) (n := (1)) (zd_dr dc_Mo_reaches 35 rfl) rfl)) ?_
  refine zm_ac (om_pk nt_goto (ok_goto (l := l) (B := B) (y := m_Mo_reaches) (pc := 56) (zd_dr dc_Mo_reaches 36 rfl) (by decide))) ?_
  refine zm_ac (om_pk nt_ci (ok_iconst (l := l) (B := B) (y := m_Mo_reaches) (pc := 59) (n := (0)) (zd_dr dc_Mo_reaches 37 rfl) rfl)) ?_
  refine zm_ac (ok_mzret (ok_iret (l := l) (B := B) (y := m_Mo_reaches) (pc := 60) rfl (zd_dr dc_Mo_reaches 38 rfl))) ?_
  refine zm_ac (om_pk nt_iinc (ok_iinc (l := l) (B := B) (y := m_Mo_reaches) (pc := 61) (zd_dr dc_Mo_reaches 39 rfl) (by decide) rfl)) ?_
  refine zm_ac (om_pk nt_goto (ok_goto (l := l) (B := B) (y := m_Mo_reaches) (pc := 64) (zd_dr dc_Mo_reaches 40 rfl) (by decide))) ?_
  refine zm_ac (om_pk nt_ci (ok_iconst (l := l) (B := B) (y := m_Mo_reaches) (pc := 67) (n := (1)) (zd_dr dc_Mo_reaches 41 rfl) rfl)) ?_
  refine zm_ac (ok_mzret (ok_iret (l := l) (B := B) (y := m_Mo_reaches) (pc := 68) rfl (zd_dr dc_Mo_reaches 42 rfl))) ?_
  exact zm_an
