/-! written by gencode.py: code of the model -/
theorem cf_Mo_compare_Mo_compareSizes : zd_cf m_Mo_compare m_Mo_compareSizes 2 := ⟨(List.mem_of_getElem? (i := 1005) (by decide +kernel)), by decide +kernel, by decide, by decide, ⟨by decide, by decide⟩, by decide +kernel⟩
theorem cf_Mo_compare_Mo_isZero : zd_cf m_Mo_compare m_Mo_isZero 1 := ⟨(List.mem_of_getElem? (i := 1001) (by decide +kernel)), by decide +kernel, by decide, by decide, ⟨by decide, by decide⟩, by decide +kernel⟩
theorem cf_Mo_compare_Mo_no : zd_cf m_Mo_compare m_Mo_no 1 := ⟨(List.mem_of_getElem? (i := 966) (by decide +kernel)), by decide +kernel, by decide, by decide, ⟨by decide, by decide⟩, by decide +kernel⟩
theorem cf_Mo_put_Mo_no : zd_cf m_Mo_put m_Mo_no 1 := ⟨(List.mem_of_getElem? (i := 966) (by decide +kernel)), by decide +kernel, by decide, by decide, ⟨by decide, by decide⟩, by decide +kernel⟩
theorem cf_Mo_put_Mo_store : zd_cf m_Mo_put m_Mo_store 1 := ⟨(List.mem_of_getElem? (i := 983) (by decide +kernel)), by decide +kernel, by decide, by decide, ⟨by decide, by decide⟩, by decide +kernel⟩
theorem cf_Mo_read_Mo_no : zd_cf m_Mo_read m_Mo_no 1 := ⟨(List.mem_of_getElem? (i := 966) (by decide +kernel)), by decide +kernel, by decide, by decide, ⟨by decide, by decide⟩, by decide +kernel⟩
theorem cf_Mo_read_Mo_says : zd_cf m_Mo_read m_Mo_says 0 := ⟨(List.mem_of_getElem? (i := 970) (by decide +kernel)), by decide +kernel, by decide, by decide, ⟨by decide, by decide⟩, by decide +kernel⟩
theorem cf_Mo_read_Mo_store : zd_cf m_Mo_read m_Mo_store 1 := ⟨(List.mem_of_getElem? (i := 983) (by decide +kernel)), by decide +kernel, by decide, by decide, ⟨by decide, by decide⟩, by decide +kernel⟩
theorem cf_Mo_says_Mo_at : zd_cf m_Mo_says m_Mo_at 1 := ⟨(List.mem_of_getElem? (i := 974) (by decide +kernel)), by decide +kernel, by decide, by decide, ⟨by decide, by decide⟩, by decide +kernel⟩
theorem cf_Mo_says_Mo_isDigit : zd_cf m_Mo_says m_Mo_isDigit 1 := ⟨(List.mem_of_getElem? (i := 977) (by decide +kernel)), by decide +kernel, by decide, by decide, ⟨by decide, by decide⟩, by decide +kernel⟩
def dl_Mo_write : List (Nat × Instr × Nat) := [(0, .aload_n 0, 1), (1, .iconst (0), 1), (2, .putfield 41, 3), (5, .iconst (0), 1), (6, .istore_n 3, 1), (7, .iconst (0), 1), (8, .istore 4, 2), (10, .iload 4, 2), (12, .bipush (64), 2), (14, .if_icmp .ge (30), 3), (17, .lload_n 1, 1), (18, .iload 4, 2), (20, .lshr, 1), (21, .ldc2_w 97, 3), (24, .land, 1), (25, .lconst 0, 1), (26, .lcmp, 1), (27, .ifCond .eq (9), 3), (30, .iload_n 3, 1), (31, .iconst (1), 1), (32, .iadd, 1), (33, .goto (4), 3), (36, .iload_n 3, 1), (37, .istore_n 3, 1), (38, .iinc 4 (8), 3), (41, .goto (-31), 3), (44, .aload_n 0, 1), (45, .getfield 99, 3), (48, .iload_n 3, 1), (49, .iadd, 1), (50, .sipush (1100), 3), (53, .if_icmp .le (5), 3), (56, .iconst (-1), 1), (57, .ireturn, 1), (58, .iconst (0), 1), (59, .istore 4, 2), (61, .iload 4, 2), (63, .bipush (64), 2), (65, .if_icmp .ge (46), 3), (68, .lload_n 1, 1), (69, .iload 4, 2), (71, .lshr, 1), (72, .ldc2_w 97, 3), (75, .land, 1), (76, .l2i, 1), (77, .istore 5, 2), (79, .iload 5, 2), (81, .ifCond .eq (24), 3), (84, .aload_n 0, 1), (85, .getfield 7, 3), (88, .aload_n 0, 1), (89, .getfield 99, 3), (92, .iload 5, 2), (94, .iastore, 1), (95, .aload_n 0, 1), (96, .dup, 1), (97, .getfield 99, 3), (100, .iconst (1), 1), (101, .iadd, 1), (102, .putfield 99, 3), (105, .iinc 4 (8), 3), (108, .goto (-47), 3), (111, .aload_n 0, 1), (112, .getfield 99, 3), (115, .ireturn, 1)]
theorem dc_Mo_write : ∀ q ∈ dl_Mo_write, decode (zd_yb m_Mo_write) q.1 = .ok q.2 := by decide +kernel
def cm_Mo_write (l : Launch) (B : zd_B) : List (Nat × zm_S) := [(0, om_p (oc_aload 0 1)), (1, om_p (oc_ci (0) 2)), (2, om_puti gM 0 5), (5, om_p (oc_ci (0) 6)), (6, om_p (oc_istore 3 7)), (7, om_p (oc_ci (0) 8)), (8, om_p (oc_istore 4 10)), (10, om_p (oc_iload 4 12)), (12, om_p (oc_ci (64) 14)), (14, om_p (oc_icmp_ge 44 17)), (17, om_p (oc_lload 1 18)), (18, om_p (oc_iload 4 20)), (20, om_p (oc_lshr 21)), (21, om_p (oc_cl (255) 24)), (24, om_p (oc_land 25)), (25, om_p (oc_cl 0 26)), (26, om_p (oc_lcmp 27)), (27, om_p (oc_if_eq 36 30)), (30, om_p (oc_iload 3 31)), (31, om_p (oc_ci (1) 32)), (32, om_p (oc_iadd 33)), (33, om_p (oc_goto 37)), (36, om_p (oc_iload 3 37)), (37, om_p (oc_istore 3 38)), (38, om_p (oc_iinc 4 (8) 41)), (41, om_p (oc_goto 10)), (44, om_p (oc_aload 0 45)), (45, om_getf gM 2 48), (48, om_p (oc_iload 3 49)), (49, om_p (oc_iadd 50)), (50, om_p (oc_ci (1100) 53)), (53, om_p (oc_icmp_le 58 56)), (56, om_p (oc_ci (-1) 57)), (57, om_iret), (58, om_p (oc_ci (0) 59)), (59, om_p (oc_istore 4 61)), (61, om_p (oc_iload 4 63)), (63, om_p (oc_ci (64) 65)), (65, om_p (oc_icmp_ge 111 68)), (68, om_p (oc_lload 1 69)), (69, om_p (oc_iload 4 71)), (71, om_p (oc_lshr 72)), (72, om_p (oc_cl (255) 75)), (75, om_p (oc_land 76)), (76, om_p (oc_l2i 77)), (77, om_p (oc_istore 5 79)), (79, om_p (oc_iload 5 81)), (81, om_p (oc_if_eq 105 84)), (84, om_p (oc_aload 0 85)), (85, om_getf gM 1 88), (88, om_p (oc_aload 0 89)), (89, om_getf gM 2 92), (92, om_p (oc_iload 5 94)), (94, om_ast gM 0 cs_i 95), (95, om_p (oc_aload 0 96)), (96, om_p (oc_dup 97)), (97, om_getf gM 2 100), (100, om_p (oc_ci (1) 101)), (101, om_p (oc_iadd 102)), (102, om_puti gM 2 105), (105, om_p (oc_iinc 4 (8) 108)), (108, om_p (oc_goto 61)), (111, om_p (oc_aload 0 112)), (112, om_getf gM 2 115), (115, om_iret)]
set_option maxRecDepth 20000 in
theorem okm_Mo_write {l : Launch} {B : zd_B} (hG : zd_G B) (hl : l.stackTraces = false) : ∀ q ∈ cm_Mo_write l B, zm_ok l B gM m_Mo_write q.1 q.2 := by
  unfold cm_Mo_write
  refine zm_ac (om_pk nt_aload (ok_aload_n (l := l) (B := B) (y := m_Mo_write) (pc := 0) (k := 0) rfl (zd_dr dc_Mo_write 0 rfl))) ?_
  refine zm_ac (om_pk nt_ci (ok_iconst (l := l) (B := B) (y := m_Mo_write) (pc := 1) (n := (0)) (zd_dr dc_Mo_write 1 rfl) rfl)) ?_
  refine zm_ac (ok_mputi rfl (ok_putf (l := l) (B := B) (y := m_Mo_write) (pc := 2) hG (C := zR8) (T := zT8) (N := 21) (ci := 8) (k := 0) rfl zl8 zt8 (by decide) (List.mem_of_getElem? (i := 882) (by decide +kernel)) rfl (zd_dr dc_Mo_write 2 rfl))) ?_
  refine zm_ac (om_pk nt_ci (ok_iconst (l := l) (B := B) (y := m_Mo_write) (pc := 5) (n := (0)) (zd_dr dc_Mo_write 3 rfl) rfl)) ?_
  refine zm_ac (om_pk nt_istore (ok_istore_n (l := l) (B := B) (y := m_Mo_write) (pc := 6) (k := 3) rfl (zd_dr dc_Mo_write 4 rfl) (by decide))) ?_
  refine zm_ac (om_pk nt_ci (ok_iconst (l := l) (B := B) (y := m_Mo_write) (pc := 7) (n := (0)) (zd_dr dc_Mo_write 5 rfl) rfl)) ?_
  refine zm_ac (om_pk nt_istore (ok_istore (l := l) (B := B) (y := m_Mo_write) (pc := 8) (zd_dr dc_Mo_write 6 rfl) (by decide))) ?_
  refine zm_ac (om_pk nt_iload (ok_iload (l := l) (B := B) (y := m_Mo_write) (pc := 10) (zd_dr dc_Mo_write 7 rfl))) ?_
  refine zm_ac (om_pk nt_ci (ok_bipush (l := l) (B := B) (y := m_Mo_write) (pc := 12) (n := (64)) (zd_dr dc_Mo_write 8 rfl) rfl)) ?_
  refine zm_ac (om_pk nt_icmp_ge (ok_icmp_ge (l := l) (B := B) (y := m_Mo_write) (pc := 14) (zd_dr dc_Mo_write 9 rfl) (by decide))) ?_
  refine zm_ac (om_pk nt_lload (ok_lload_n (l := l) (B := B) (y := m_Mo_write) (pc := 17) (k := 1) rfl (zd_dr dc_Mo_write 10 rfl))) ?_
  refine zm_ac (om_pk nt_iload (ok_iload (l := l) (B := B) (y := m_Mo_write) (pc := 18) (zd_dr dc_Mo_write 11 rfl))) ?_
  refine zm_ac (om_pk nt_lshr (ok_lshr (l := l) (B := B) (y := m_Mo_write) (pc := 20) (zd_dr dc_Mo_write 12 rfl))) ?_
  refine zm_ac (om_pk nt_cl (ok_ldc2 (l := l) (B := B) (y := m_Mo_write) (pc := 21) hG (List.mem_of_getElem? (i := 955) (by decide +kernel)) (zd_dr dc_Mo_write 13 rfl))) ?_
  refine zm_ac (om_pk nt_land (ok_land (l := l) (B := B) (y := m_Mo_write) (pc := 24) (zd_dr dc_Mo_write 14 rfl))) ?_
  refine zm_ac (om_pk nt_cl (ok_lconst (l := l) (B := B) (y := m_Mo_write) (pc := 25) (n := 0) (zd_dr dc_Mo_write 15 rfl) rfl)) ?_
  refine zm_ac (om_pk nt_lcmp (ok_lcmp (l := l) (B := B) (y := m_Mo_write) (pc := 26) (zd_dr dc_Mo_write 16 rfl))) ?_
  refine zm_ac (om_pk nt_if_eq (ok_if_eq (l := l) (B := B) (y := m_Mo_write) (pc := 27) (zd_dr dc_Mo_write 17 rfl) (by decide))) ?_
  refine zm_ac (om_pk nt_iload (ok_iload_n (l := l) (B := B) (y := m_Mo_write) (pc := 30) (k := 3) rfl (zd_dr dc_Mo_write 18 rfl))) ?_
  refine zm_ac (om_pk nt_ci (ok_iconst (l := l) (B := B) (y := m_Mo_write) (pc := 31) (n := (1)) (zd_dr dc_Mo_write 19 rfl) rfl)) ?_
  refine zm_ac (om_pk nt_iadd (ok_iadd (l := l) (B := B) (y := m_Mo_write) (pc := 32) (zd_dr dc_Mo_write 20 rfl))) ?_
  refine zm_ac (om_pk nt_goto (ok_goto (l := l) (B := B) (y := m_Mo_write) (pc := 33) (zd_dr dc_Mo_write 21 rfl) (by decide))) ?_
  refine zm_ac (om_pk nt_iload (ok_iload_n (l := l) (B := B) (y := m_Mo_write) (pc := 36) (k := 3) rfl (zd_dr dc_Mo_write 22 rfl))) ?_
  refine zm_ac (om_pk nt_istore (ok_istore_n (l := l) (B := B) (y := m_Mo_write) (pc := 37) (k := 3) rfl (zd_dr dc_Mo_write 23 rfl) (by decide))) ?_
  refine zm_ac (om_pk nt_iinc (ok_iinc (l := l) (B := B) (y := m_Mo_write) (pc := 38) (zd_dr dc_Mo_write 24 rfl) (by decide) rfl)) ?_
  refine zm_ac (om_pk nt_goto (ok_goto (l := l) (B := B) (y := m_Mo_write) (pc := 41) (zd_dr dc_Mo_write 25 rfl) (by decide))) ?_
  refine zm_ac (om_pk nt_aload (ok_aload_n (l := l) (B := B) (y := m_Mo_write) (pc := 44) (k := 0) rfl (zd_dr dc_Mo_write 26 rfl))) ?_
  refine zm_ac (ok_mgetf rfl (ok_getf (l := l) (B := B) (y := m_Mo_write) (pc := 45) hG (C := zR8) (T := zT8) (N := 21) (ci := 8) (k := 2) rfl zl8 (by decide) (List.mem_of_getElem? (i := 884) (by decide +kernel)) (zd_dr dc_Mo_write 27 rfl))) ?_
  refine zm_ac (om_pk nt_iload (ok_iload_n (l := l) (B := B) (y := m_Mo_write) (pc := 48) (k := 3) rfl (zd_dr dc_Mo_write 28 rfl))) ?_
  refine zm_ac (om_pk nt_iadd (ok_iadd (l := l) (B := B) (y := m_Mo_write) (pc := 49) (zd_dr dc_Mo_write 29 rfl))) ?_
  refine zm_ac (om_pk nt_ci (ok_sipush (l := l) (B := B) (y := m_Mo_write) (pc := 50) (n := (1100)) (zd_dr dc_Mo_write 30 rfl) rfl)) ?_
  refine zm_ac (om_pk nt_icmp_le (ok_icmp_le (l := l) (B := B) (y := m_Mo_write) (pc := 53) (zd_dr dc_Mo_write 31 rfl) (by decide))) ?_
  refine zm_ac (om_pk nt_ci (ok_iconst (l := l) (B := B) (y := m_Mo_write) (pc := 56) (n := (-1)) (zd_dr dc_Mo_write 32 rfl) rfl)) ?_
  refine zm_ac (ok_miret (ok_iret (l := l) (B := B) (y := m_Mo_write) (pc := 57) rfl (zd_dr dc_Mo_write 33 rfl))) ?_
  refine zm_ac (om_pk nt_ci (ok_iconst (l := l) (B := B) (y := m_Mo_write) (pc := 58) (n := (0)) (zd_dr dc_Mo_write 34 rfl) rfl)) ?_
  refine zm_ac (om_pk nt_istore (ok_istore (l := l) (B := B) (y := m_Mo_write) (pc := 59) (zd_dr dc_Mo_write 35 rfl) (by decide))) ?_
  refine zm_ac (om_pk nt_iload (ok_iload (l := l) (B := B) (y := m_Mo_write) (pc := 61) (zd_dr dc_Mo_write 36 rfl))) ?_
  refine zm_ac (om_pk nt_ci (ok_bipush (l := l) (B := B) (y := m_Mo_write) (pc := 63) (n := (64)) (zd_dr dc_Mo_write 37 rfl) rfl)) ?_
  refine zm_ac (om_pk nt_icmp_ge (ok_icmp_ge (l := l) (B := B) (y := m_Mo_write) (pc := 65) (zd_dr dc_Mo_write 38 rfl) (by decide))) ?_
  refine zm_ac (om_pk nt_lload (ok_lload_n (l := l) (B := B) (y := m_Mo_write) (pc := 68) (k := 1) rfl (zd_dr dc_Mo_write 39 rfl))) ?_
  refine zm_ac (om_pk nt_iload (ok_iload (l := l) (B := B) (y := m_Mo_write) (pc := 69) (zd_dr dc_Mo_write 40 rfl))) ?_
  refine zm_ac (om_pk nt_lshr (ok_lshr (l := l) (B := B) (y := m_Mo_write) (pc := 71) (zd_dr dc_Mo_write 41 rfl))) ?_
  refine zm_ac (om_pk nt_cl (ok_ldc2 (l := l) (B := B) (y := m_Mo_write) (pc := 72) hG (List.mem_of_getElem? (i := 955) (by decide +kernel)) (zd_dr dc_Mo_write 42 rfl))) ?_
  refine zm_ac (om_pk nt_land (ok_land (l := l) (B := B) (y := m_Mo_write) (pc := 75) (zd_dr dc_Mo_write 43 rfl))) ?_
  refine zm_ac (om_pk nt_l2i (ok_l2i (l := l) (B := B) (y := m_Mo_write) (pc := 76) (zd_dr dc_Mo_write 44 rfl))) ?_
  refine zm_ac (om_pk nt_istore (ok_istore (l := l) (B := B) (y := m_Mo_write) (pc := 77) (zd_dr dc_Mo_write 45 rfl) (by decide))) ?_
  refine zm_ac (om_pk nt_iload (ok_iload (l := l) (B := B) (y := m_Mo_write) (pc := 79) (zd_dr dc_Mo_write 46 rfl))) ?_
  refine zm_ac (om_pk nt_if_eq (ok_if_eq (l := l) (B := B) (y := m_Mo_write) (pc := 81) (zd_dr dc_Mo_write 47 rfl) (by decide))) ?_
  refine zm_ac (om_pk nt_aload (ok_aload_n (l := l) (B := B) (y := m_Mo_write) (pc := 84) (k := 0) rfl (zd_dr dc_Mo_write 48 rfl))) ?_
  refine zm_ac (ok_mgetf rfl (ok_getf (l := l) (B := B) (y := m_Mo_write) (pc := 85) hG (C := zR8) (T := zT8) (N := 21) (ci := 8) (k := 1) rfl zl8 (by decide) (List.mem_of_getElem? (i := 883) (by decide +kernel)) (zd_dr dc_Mo_write 49 rfl))) ?_
  refine zm_ac (om_pk nt_aload (ok_aload_n (l := l) (B := B) (y := m_Mo_write) (pc := 88) (k := 0) rfl (zd_dr dc_Mo_write 50 rfl))) ?_
  refine zm_ac (ok_mgetf rfl (ok_getf (l := l) (B := B) (y := m_Mo_write) (pc := 89) hG (C := zR8) (T := zT8) (N := 21) (ci := 8) (k := 2) rfl zl8 (by decide) (List.mem_of_getElem? (i := 884) (by decide +kernel)) (zd_dr dc_Mo_write 51 rfl))) ?_
  refine zm_ac (om_pk nt_iload (ok_iload (l := l) (B := B) (y := m_Mo_write) (pc := 92) (zd_dr dc_Mo_write 52 rfl))) ?_
  refine zm_ac (ok_miastore (ok_iastore (l := l) (B := B) (y := m_Mo_write) (pc := 94) hG (zd_dr dc_Mo_write 53 rfl))) ?_
  refine zm_ac (om_pk nt_aload (ok_aload_n (l := l) (B := B) (y := m_Mo_write) (pc := 95) (k := 0) rfl (zd_dr dc_Mo_write 54 rfl))) ?_
  refine zm_ac (om_pk nt_dup (ok_dup (l := l) (B := B) (y := m_Mo_write) (pc := 96) (zd_dr dc_Mo_write 55 rfl))) ?_
  refine zm_ac (ok_mgetf rfl (ok_getf (l := l) (B := B) (y := m_Mo_write) (pc := 97) hG (C := zR8) (T := zT8) (N := 21) (ci := 8) (k := 2) rfl zl8 (by decide) (List.mem_of_getElem? (i := 884) (by decide +kernel)) (zd_dr dc_Mo_write 56 rfl))) ?_
  refine zm_ac (om_pk nt_ci (ok_iconst (l := l) (B := B) (y := m_Mo_write) (pc := 100) (n := (1)) (zd_dr dc_Mo_write 57 rfl) rfl)) ?_
  refine zm_ac (om_pk nt_iadd (ok_iadd (l := l) (B := B) (y := m_Mo_write) (pc := 101) (zd_dr dc_Mo_write 58 rfl))) ?_
  refine zm_ac (ok_mputi rfl (ok_putf (l := l) (B := B) (y := m_Mo_write) (pc := 102) hG (C := zR8) (T := zT8) (N := 21) (ci := 8) (k := 2) rfl zl8 zt8 (by decide) (List.mem_of_getElem? (i := 884) (by decide +kernel)) rfl (zd_dr dc_Mo_write 59 rfl))) ?_
  refine zm_ac (om_pk nt_iinc (ok_iinc (l := l) (B := B) (y := m_Mo_write) (pc := 105) (zd_dr dc_Mo_write 60 rfl) (by decide) rfl)) ?_
  refine zm_ac (om_pk nt_goto (ok_goto (l := l) (B := B) (y := m_Mo_write) (pc := 108) (zd_dr dc_Mo_write 61 rfl) (by decide))) ?_
  refine zm_ac (om_pk nt_aload (ok_aload_n (l := l) (B := B) (y := m_Mo_write) (pc := 111) (k := 0) rfl (zd_dr dc_Mo_write 62 rfl))) ?_
  refine zm_ac (ok_mgetf rfl (ok_getf (l := l) (B := B) (y := m_Mo_write) (pc := 112) hG (C := zR8) (T := zT8) (N := 21) (ci := 8) (k := 2) rfl zl8 (by decide) (List.mem_of_getElem? (i := 884) (by decide +kernel)) (zd_dr dc_Mo_write 63 rfl))) ?_
  refine zm_ac (ok_miret (ok_iret (l := l) (B := B) (y := m_Mo_write) (pc := 115) rfl (zd_dr dc_Mo_write 64 rfl))) ?_
  exact zm_an
def dl_Mo_wipe : List (Nat × Instr × Nat) := [(0, .aload_n 0, 1), (1, .iconst (0), 1), (2, .putfield 41, 3), (5, .aload_n 0, 1), (6, .getfield 99, 3), (9, .istore_n 1, 1), (10, .aload_n 0, 1), (11, .iconst (0), 1), (12, .putfield 99, 3), (15, .iload_n 1, 1), (16, .ireturn, 1)]
theorem dc_Mo_wipe : ∀ q ∈ dl_Mo_wipe, decode (zd_yb m_Mo_wipe) q.1 = .ok q.2 := by decide +kernel
def cm_Mo_wipe (l : Launch) (B : zd_B) : List (Nat × zm_S) := [(0, om_p (oc_aload 0 1)), (1, om_p (oc_ci (0) 2)), (2, om_puti gM 0 5), (5, om_p (oc_aload 0 6)), (6, om_getf gM 2 9), (9, om_p (oc_istore 1 10)), (10, om_p (oc_aload 0 11)), (11, om_p (oc_ci (0) 12)), (12, om_puti gM 2 15), (15, om_p (oc_iload 1 16)), (16, om_iret)]
set_option maxRecDepth 20000 in
theorem okm_Mo_wipe {l : Launch} {B : zd_B} (hG : zd_G B) (hl : l.stackTraces = false) : ∀ q ∈ cm_Mo_wipe l B, zm_ok l B gM m_Mo_wipe q.1 q.2 := by
  unfold cm_Mo_wipe
  refine zm_ac (om_pk nt_aload (ok_aload_n (l := l) (B := B) (y := m_Mo_wipe) (pc := 0) (k := 0) rfl (zd_dr dc_Mo_wipe 0 rfl))) ?_
  refine zm_ac (om_pk nt_ci (ok_iconst (l := l) (B := B) (y := m_Mo_wipe) (pc := 1) (n := (0)) (zd_dr dc_Mo_wipe 1 rfl) rfl)) ?_
  refine zm_ac (ok_mputi rfl (ok_putf (l := l) (B := B) (y := m_Mo_wipe) (pc := 2) hG (C := zR8) (T := zT8) (N := 21) (ci := 8) (k := 0) rfl zl8 zt8 (by decide) (List.mem_of_getElem? (i := 882) (by decide +kernel)) rfl (zd_dr dc_Mo_wipe 2 rfl))) ?_
  refine zm_ac (om_pk nt_aload (ok_aload_n (l := l) (B := B) (y := m_Mo_wipe) (pc := 5) (k := 0) rfl (zd_dr dc_Mo_wipe 3 rfl))) ?_
  refine zm_ac (ok_mgetf rfl (ok_getf (l := l) (B := B) (y := m_Mo_wipe) (pc := 6) hG (C := zR8) (T := zT8) (N := 21) (ci := 8) (k := 2) rfl zl8 (by decide) (List.mem_of_getElem? (i := 884) (by decide +kernel)) (zd_dr dc_Mo_wipe 4 rfl))) ?_
  refine zm_ac (om_pk nt_istore (ok_istore_n (l := l) (B := B) (y := m_Mo_wipe) (pc := 9) (k := 1) rfl (zd_dr dc_Mo_wipe 5 rfl) (by decide))) ?_
  refine zm_ac (om_pk nt_aload (ok_aload_n (l := l) (B := B) (y := m_Mo_wipe) (pc := 10) (k := 0) rfl (zd_dr dc_Mo_wipe 6 rfl))) ?_
  refine zm_ac (om_pk nt_ci (ok_iconst (l := l) (B := B) (y := m_Mo_wipe) (pc := 11) (n := (0)) (zd_dr dc_Mo_wipe 7 rfl) rfl)) ?_
  refine zm_ac (ok_mputi rfl (ok_putf (l := l) (B := B) (y := m_Mo_wipe) (pc := 12) hG (C := zR8) (T := zT8) (N := 21) (ci := 8) (k := 2) rfl zl8 zt8 (by decide) (List.mem_of_getElem? (i := 884) (by decide +kernel)) rfl (zd_dr dc_Mo_wipe 8 rfl))) ?_
  refine zm_ac (om_pk nt_iload (ok_iload_n (l := l) (B := B) (y := m_Mo_wipe) (pc := 15) (k := 1) rfl (zd_dr dc_Mo_wipe 9 rfl))) ?_
  refine zm_ac (ok_miret (ok_iret (l := l) (B := B) (y := m_Mo_wipe) (pc := 16) rfl (zd_dr dc_Mo_wipe 10 rfl))) ?_
  exact zm_an
def dl_Mo_at : List (Nat × Instr × Nat) := [(0, .iload_n 1, 1), (1, .aload_n 0, 1), (2, .getfield 99, 3), (5, .if_icmp .ge (12), 3), (8, .aload_n 0, 1), (9, .getfield 7, 3), (12, .iload_n 1, 1), (13, .iaload, 1), (14, .goto (4), 3), (17, .iconst (0), 1), (18, .ireturn, 1)]
theorem dc_Mo_at : ∀ q ∈ dl_Mo_at, decode (zd_yb m_Mo_at) q.1 = .ok q.2 := by decide +kernel
def cm_Mo_at (l : Launch) (B : zd_B) : List (Nat × zm_S) := [(0, om_p (oc_iload 1 1)), (1, om_p (oc_aload 0 2)), (2, om_getf gM 2 5), (5, om_p (oc_icmp_ge 17 8)), (8, om_p (oc_aload 0 9)), (9, om_getf gM 1 12), (12, om_p (oc_iload 1 13)), (13, om_ald gM 0 14), (14, om_p (oc_goto 18)), (17, om_p (oc_ci (0) 18)), (18, om_iret)]
set_option maxRecDepth 20000 in
theorem okm_Mo_at {l : Launch} {B : zd_B} (hG : zd_G B) (hl : l.stackTraces = false) : ∀ q ∈ cm_Mo_at l B, zm_ok l B gM m_Mo_at q.1 q.2 := by
  unfold cm_Mo_at
  refine zm_ac (om_pk nt_iload (ok_iload_n (l := l) (B := B) (y := m_Mo_at) (pc := 0) (k := 1) rfl (zd_dr dc_Mo_at 0 rfl))) ?_
  refine zm_ac (om_pk nt_aload (ok_aload_n (l := l) (B := B) (y := m_Mo_at) (pc := 1) (k := 0) rfl (zd_dr dc_Mo_at 1 rfl))) ?_
  refine zm_ac (ok_mgetf rfl (ok_getf (l := l) (B := B) (y := m_Mo_at) (pc := 2) hG (C := zR8) (T := zT8) (N := 21) (ci := 8) (k := 2) rfl zl8 (by decide) (List.mem_of_getElem? (i := 884) (by decide +kernel)) (zd_dr dc_Mo_at 2 rfl))) ?_
  refine zm_ac (om_pk nt_icmp_ge (ok_icmp_ge (l := l) (B := B) (y := m_Mo_at) (pc := 5) (zd_dr dc_Mo_at 3 rfl) (by decide))) ?_
  refine zm_ac (om_pk nt_aload (ok_aload_n (l := l) (B := B) (y := m_Mo_at) (pc := 8) (k := 0) rfl (zd_dr dc_Mo_at 4 rfl))) ?_
  refine zm_ac (ok_mgetf rfl (ok_getf (l := l) (B := B) (y := m_Mo_at) (pc := 9) hG (C := zR8) (T := zT8) (N := 21) (ci := 8) (k := 1) rfl zl8 (by decide) (List.mem_of_getElem? (i := 883) (by decide +kernel)) (zd_dr dc_Mo_at 5 rfl))) ?_
  refine zm_ac (om_pk nt_iload (ok_iload_n (l := l) (B := B) (y := m_Mo_at) (pc := 12) (k := 1) rfl (zd_dr dc_Mo_at 6 rfl))) ?_
  refine zm_ac (ok_miaload (ok_iaload (l := l) (B := B) (y := m_Mo_at) (pc := 13) hG (zd_dr dc_Mo_at 7 rfl))) ?_
  refine zm_ac (om_pk nt_goto (ok_goto (l := l) (B := B) (y := m_Mo_at) (pc := 14) (zd_dr dc_Mo_at 8 rfl) (by decide))) ?_
  refine zm_ac (om_pk nt_ci (ok_iconst (l := l) (B := B) (y := m_Mo_at) (pc := 17) (n := (0)) (zd_dr dc_Mo_at 9 rfl) rfl)) ?_
  refine zm_ac (ok_miret (ok_iret (l := l) (B := B) (y := m_Mo_at) (pc := 18) rfl (zd_dr dc_Mo_at 10 rfl))) ?_
  exact zm_an
def dl_Mo_isDigit : List (Nat × Instr × Nat) := [(0, .iload_n 0, 1), (1, .bipush (48), 2), (3, .if_icmp .lt (13), 3), (6, .iload_n 0, 1), (7, .bipush (57), 2), (9, .if_icmp .gt (7), 3), (12, .iconst (1), 1), (13, .goto (4), 3), (16, .iconst (0), 1), (17, .ireturn, 1)]
theorem dc_Mo_isDigit : ∀ q ∈ dl_Mo_isDigit, decode (zd_yb m_Mo_isDigit) q.1 = .ok q.2 := by decide +kernel
def cm_Mo_isDigit (l : Launch) (B : zd_B) : List (Nat × zm_S) := [(0, om_p (oc_iload 0 1)), (1, om_p (oc_ci (48) 3)), (3, om_p (oc_icmp_lt 16 6)), (6, om_p (oc_iload 0 7)), (7, om_p (oc_ci (57) 9)), (9, om_p (oc_icmp_gt 16 12)), (12, om_p (oc_ci (1) 13)), (13, om_p (oc_goto 17)), (16, om_p (oc_ci (0) 17)), (17, om_zret)]
set_option maxRecDepth 20000 in
theorem okm_Mo_isDigit {l : Launch} {B : zd_B} (hG : zd_G B) (hl : l.stackTraces = false) : ∀ q ∈ cm_Mo_isDigit l B, zm_ok l B gM m_Mo_isDigit q.1 q.2 := by
  unfold cm_Mo_isDigit
  refine zm_ac (om_pk nt_iload (ok_iload_n (l := l) (B := B) (y := m_Mo_isDigit) (pc := 0) (k := 0) rfl (zd_dr dc_Mo_isDigit 0 rfl))) ?_
  refine zm_ac (om_pk nt_ci (ok_bipush (l := l) (B := B) (y := m_Mo_isDigit) (pc := 1) (n := (48)) (zd_dr dc_Mo_isDigit 1 rfl) rfl)) ?_
  refine zm_ac (om_pk nt_icmp_lt (ok_icmp_lt (l := l) (B := B) (y := m_Mo_isDigit) (pc := 3) (zd_dr dc_Mo_isDigit 2 rfl) (by decide))) ?_
  refine zm_ac (om_pk nt_iload (ok_iload_n (l := l) (B := B) (y := m_Mo_isDigit) (pc := 6) (k := 0) rfl (zd_dr dc_Mo_isDigit 3 rfl))) ?_
  refine zm_ac (om_pk nt_ci (ok_bipush (l := l) (B := B) (y := m_Mo_isDigit) (pc := 7) (n := (57)) (zd_dr dc_Mo_isDigit 4 rfl) rfl)) ?_
  refine zm_ac (om_pk nt_icmp_gt (ok_icmp_gt (l := l) (B := B) (y := m_Mo_isDigit) (pc := 9) (zd_dr dc_Mo_isDigit 5 rfl) (by decide))) ?_
  refine zm_ac (om_pk nt_ci (ok_iconst (l := l) (B := B) (y := m_Mo_isDigit) (pc := 12) (n := (1)) (zd_dr dc_Mo_isDigit 6 rfl) rfl)) ?_
  refine zm_ac (om_pk nt_goto (ok_goto (l := l) (B := B) (y := m_Mo_isDigit) (pc := 13) (zd_dr dc_Mo_isDigit 7 rfl) (by decide))) ?_
  refine zm_ac (om_pk nt_ci (ok_iconst (l := l) (B := B) (y := m_Mo_isDigit) (pc := 16) (n := (0)) (zd_dr dc_Mo_isDigit 8 rfl) rfl)) ?_
  refine zm_ac (ok_mzret (ok_iret (l := l) (B := B) (y := m_Mo_isDigit) (pc := 17) rfl (zd_dr dc_Mo_isDigit 9 rfl))) ?_
  exact zm_an
def dl_Mo_says : List (Nat × Instr × Nat) := [(0, .aload_n 0, 1), (1, .iconst (0), 1), (2, .invokevirtual 102, 3), (5, .bipush (43), 2), (7, .if_icmp .eq (13), 3), (10, .aload_n 0, 1), (11, .iconst (0), 1), (12, .invokevirtual 102, 3), (15, .bipush (45), 2), (17, .if_icmp .ne (7), 3), (20, .iconst (1), 1), (21, .goto (4), 3), (24, .iconst (0), 1), (25, .istore_n 1, 1), (26, .aload_n 0, 1), (27, .aload_n 0, 1), (28, .iconst (0), 1), (29, .invokevirtual 102, 3), (32, .bipush (45), 2), (34, .if_icmp .ne (7), 3), (37, .iconst (1), 1), (38, .goto (4), 3), (41, .iconst (0), 1), (42, .putfield 56, 3), (45, .aload_n 0, 1), (46, .iconst (0), 1), (47, .putfield 45, 3), (50, .aload_n 0, 1), (51, .lconst 0, 1), (52, .putfield 48, 3), (55, .aload_n 0, 1), (56, .iconst (0), 1), (57, .putfield 52, 3), (60, .iconst (0), 1), (61, .istore_n 2, 1), (62, .aload_n 0, 1), (63, .iload_n 1, 1), (64, .invokevirtual 102, 3), (67, .invokestatic 106, 3), (70, .ifCond .ne (17), 3), (73, .aload_n 0, 1), (74, .iload_n 1, 1), (75, .invokevirtual 102, 3), (78, .bipush (46), 2), (80, .if_icmp .ne (91), 3), (83, .iload_n 2, 1), (84, .ifCond .ne (87), 3), (87, .iload_n 2, 1), (88, .ifCond .ne (13), 3), (91, .aload_n 0, 1), (92, .iload_n 1, 1), (93, .invokevirtual 102, 3), (96, .bipush (46), 2), (98, .if_icmp .ne (7), 3), (101, .iconst (1), 1), (102, .goto (4), 3), (105, .iconst (0), 1), (106, .istore_n 2, 1), (107, .aload_n 0, 1), (108, .iload_n 1, 1), (109, .invokevirtual 102, 3), (112, .bipush (46), 2), (114, .if_icmp .eq (51), 3), (117, .aload_n 0, 1), (118, .getfield 26, 3), (121, .aload_n 0, 1), (122, .getfield 45, 3), (125, .aload_n 0, 1), (126, .iload_n 1, 1), (127, .invokevirtual 102, 3), (130, .bipush (48), 2), (132, .isub, 1), (133, .iastore, 1), (134, .aload_n 0, 1), (135, .dup, 1), (136, .getfield 45, 3), (139, .iconst (1), 1), (140, .iadd, 1), (141, .putfield 45, 3), (144, .aload_n 0, 1), (145, .iload_n 2, 1), (146, .ifCond .eq (12), 3), (149, .aload_n 0, 1), (150, .getfield 48, 3), (153, .lconst 1, 1), (154, .ladd, 1), (155, .goto (7), 3), (158, .aload_n 0, 1), (159, .getfield 48, 3), (162, .putfield 48, 3), (165, .iinc 1 (1), 3), (168, .goto (-106), 3), (171, .aload_n 0, 1), (172, .getfield 45, 3), (175, .ifCond .ne (5), 3), (178, .iconst (0), 1), (179, .ireturn, 1), (180, .aload_n 0, 1), (181, .iload_n 1, 1), (182, .invokevirtual 102, 3), (185, .bipush (101), 2), (187, .if_icmp .eq (13), 3), (190, .aload_n 0, 1), (191, .iload_n 1, 1), (192, .invokevirtual 102, 3), (195, .bipush (69), 2), (197, .if_icmp .ne (136), 3), (200, .iinc 1 (1), 3), (203, .aload_n 0, 1), (204, .iload_n 1, 1), (205, .invokevirtual 102, 3), (208, .bipush (45), 2), (210, .if_icmp .ne (7), 3), (213, .iconst (1), 1), (214, .goto (4), 3), (217, .iconst (0), 1), (218, .istore_n 3, 1), (219, .iload_n 3, 1), (220, .ifCond .ne (13), 3), (223, .aload_n 0, 1), (224, .iload_n 1, 1), (225, .invokevirtual 102, 3), (228, .bipush (43), 2), (230, .if_icmp .ne (9), 3), (233, .iload_n 1, 1), (234, .iconst (1), 1), (235, .iadd, 1), (236, .goto (4), 3), (239, .iload_n 1, 1), (240, .istore_n 1, 1), (241, .lconst 0, 1), (242, .lstore 4, 2), (244, .iconst (0), 1), (245, .istore 6, 2), (247, .aload_n 0, 1), (248, .iload_n 1, 1), (249, .invokevirtual 102, 3), (252, .invokestatic 106, 3), (255, .ifCond .eq (38), 3), (258, .iload 6, 2), (260, .bipush (11), 2), (262, .if_icmp .ge (31), 3), (265, .ldc2_w 109, 3), (268, .lload 4, 2), (270, .lmul, 1), (271, .aload_n 0, 1), (272, .iload_n 1, 1), (273, .invokevirtual 102, 3), (276, .i2l, 1), (277, .ladd, 1), (278, .ldc2_w 111, 3), (281, .lsub, 1), (282, .lstore 4, 2), (284, .iinc 6 (1), 3), (287, .iinc 1 (1), 3), (290, .goto (-43), 3), (293, .iload 6, 2), (295, .iconst (1), 1), (296, .if_icmp .lt (10), 3), (299, .iload 6, 2), (301, .bipush (10), 2), (303, .if_icmp .le (5), 3), (306, .iconst (0), 1), (307, .ireturn, 1), (308, .aload_n 0, 1), (309, .iload_n 3, 1), (310, .ifCond .eq (13), 3), (313, .aload_n 0, 1), (314, .getfield 48, 3), (317, .lload 4, 2), (319, .ladd, 1), (320, .goto (10), 3), (323, .aload_n 0, 1), (324, .getfield 48, 3), (327, .lload 4, 2), (329, .lsub, 1), (330, .putfield 48, 3), (333, .iload_n 1, 1), (334, .aload_n 0, 1), (335, .getfield 99, 3), (338, .if_icmp .ne (7), 3), (341, .iconst (1), 1), (342, .goto (4), 3), (345, .iconst (0), 1), (346, .ireturn, 1)]
theorem dc_Mo_says : ∀ q ∈ dl_Mo_says, decode (zd_yb m_Mo_says) q.1 = .ok q.2 := by decide +kernel
def cm_Mo_says (l : Launch) (B : zd_B) : List (Nat × zm_S) := [(0, om_p (oc_aload 0 1)), (1, om_p (oc_ci (0) 2)), (2, om_callv l B gM m_Mo_at 1 5), (5, om_p (oc_ci (43) 7)), (7, om_p (oc_icmp_eq 20 10)), (10, om_p (oc_aload 0 11)), (11, om_p (oc_ci (0) 12)), (12, om_callv l B gM m_Mo_at 1 15), (15, om_p (oc_ci (45) 17)), (17, om_p (oc_icmp_ne 24 20)), (20, om_p (oc_ci (1) 21)), (21, om_p (oc_goto 25)), (24, om_p (oc_ci (0) 25)), (25, om_p (oc_istore 1 26)), (26, om_p (oc_aload 0 27)), (27, om_p (oc_aload 0 28)), (28, om_p (oc_ci (0) 29)), (29, om_callv l B gM m_Mo_at 1 32), (32, om_p (oc_ci (45) 34)), (34, om_p (oc_icmp_ne 41 37)), (37, om_p (oc_ci (1) 38)), (38, om_p (oc_goto 42)), (41, om_p (oc_ci (0) 42)), (42, om_putb gM 11 45), (45, om_p (oc_aload 0 46)), (46, om_p (oc_ci (0) 47)), (47, om_puti gM 8 50), (50, om_p (oc_aload 0 51)), (51, om_p (oc_cl 0 52)), (52, om_putl gM 9 55), (55, om_p (oc_aload 0 56)), (56, om_p (oc_ci (0) 57)), (57, om_putb gM 10 60), (60, om_p (oc_ci (0) 61)), (61, om_p (oc_istore 2 62)), (62, om_p (oc_aload 0 63)), (63, om_p (oc_iload 1 64)), (64, om_callv l B gM m_Mo_at 1 67), (67, om_calls l B gM m_Mo_isDigit 1 70), (70, om_p (oc_if_ne 87 73)), (73, om_p (oc_aload 0 74)), (74, om_p (oc_iload 1 75)), (75, om_callv l B gM m_Mo_at 1 78), (78, om_p (oc_ci (46) 80)), (80, om_p (oc_icmp_ne 171 83)), (83, om_p (oc_iload 2 84)), (84, om_p (oc_if_ne 171 87)), (87, om_p (oc_iload 2 88)), (88, om_p (oc_if_ne 101 91)), (91, om_p (oc_aload 0 92)), (92, om_p (oc_iload 1 93)), (93, om_callv l B gM m_Mo_at 1 96), (96, om_p (oc_ci (46) 98)), (98, om_p (oc_icmp_ne 105 101)), (101, om_p (oc_ci (1) 102)), (102, om_p (oc_goto 106)), (105, om_p (oc_ci (0) 106)), (106, om_p (oc_istore 2 107)), (107, om_p (oc_aload 0 108)), (108, om_p (oc_iload 1 109)), (109, om_callv l B gM m_Mo_at 1 112), (112, om_p (oc_ci (46) 114)), (114, om_p (oc_icmp_eq 165 117)), (117, om_p (oc_aload 0 118)), (118, om_getf gM 7 121), (121, om_p (oc_aload 0 122)), (122, om_getf gM 8 125), (125, om_p (oc_aload 0 126)), (126, om_p (oc_iload 1 127)), (127, om_callv l B gM m_Mo_at 1 130), (130, om_p (oc_ci (48) 132)), (132, om_p (oc_isub 133)), (133, om_ast gM 0 cs_i 134), (134, om_p (oc_aload 0 135)), (135, om_p (oc_dup 136)), (136, om_getf gM 8 139), (139, om_p (oc_ci (1) 140)), (140, om_p (oc_iadd 141)), (141, om_puti gM 8 144), (144, om_p (oc_aload 0 145)), (145, om_p (oc_iload 2 146)), (146, om_p (oc_if_eq 158 149)), (149, om_p (oc_aload 0 150)), (150, om_getf gM 9 153), (153, om_p (oc_cl 1 154)), (154, om_p (oc_ladd 155)), (155, om_p (oc_goto 162)), (158, om_p (oc_aload 0 159)), (159, om_getf gM 9 162), (162, om_putl gM 9 165), (165, om_p (oc_iinc 1 (1) 168)), (168, om_p (oc_goto 62)), (171, om_p (oc_aload 0 172)), (172, om_getf gM 8 175), (175, om_p (oc_if_ne 180 178)), (178, om_p (oc_ci (0) 179)), (179, om_zret), (180, om_p (oc_aload 0 181)), (181, om_p (oc_iload 1 182)), (182, om_callv l B gM m_Mo_at 1 185), (185, om_p (oc_ci (101) 187)), (187, om_p (oc_icmp_eq 200 190)), (190, om_p (oc_aload 0 191)), (191, om_p (oc_iload 1 192)), (192, om_callv l B gM m_Mo_at 1 195), (195, om_p (oc_ci (69) 197)), (197, om_p (oc_icmp_ne 333 200)), (200, om_p (oc_iinc 1 (1) 203)), (203, om_p (oc_aload 0 204)), (204, om_p (oc_iload 1 205)), (205, om_callv l B gM m_Mo_at 1 208), (208, om_p (oc_ci (45) 210)), (210, om_p (oc_icmp_ne 217 213)), (213, om_p (oc_ci (1) 214)), (214, om_p (oc_goto 218)), (217, om_p (oc_ci (0) 218)), (218, om_p (oc_istore 3 219)), (219, om_p (oc_iload 3 220)), (220, om_p (oc_if_ne 233 223)), (223, om_p (oc_aload 0 224)), (224, om_p (oc_iload 1 225)), (225, om_callv l B gM m_Mo_at 1 228), (228, om_p (oc_ci (43) 230)), (230, om_p (oc_icmp_ne 239 233)), (233, om_p (oc_iload 1 234)), (234, om_p (oc_ci (1) 235)), (235, om_p (oc_iadd 236)), (236, om_p (oc_goto 240)), (239, om_p (oc_iload 1 240)), (240, om_p (oc_istore 1 241)), (241, om_p (oc_cl 0 242)), (242, om_p (oc_lstore 4 244)), (244, om_p (oc_ci (0) 245)), (245, om_p (oc_istore 6 247)), (247, om_p (oc_aload 0 248)), (248, om_p (oc_iload 1 249)), (249, om_callv l B gM m_Mo_at 1 252), (252, om_calls l B gM m_Mo_isDigit 1 255), (255, om_p (oc_if_eq 293 258)), (258, om_p (oc_iload 6 260)), (260, om_p (oc_ci (11) 262)), (262, om_p (oc_icmp_ge 293 265)), (265, om_p (oc_cl (10) 268)), (268, om_p (oc_lload 4 270)), (270, om_p (oc_lmul 271)), (271, om_p (oc_aload 0 272)), (272, om_p (oc_iload 1 273)), (273, om_callv l B gM m_Mo_at 1 276), (276, om_p (oc_i2l 277)), (277, om_p (oc_ladd 278)), (278, om_p (oc_cl (48) 281)), (281, om_p (oc_lsub 282)), (282, om_p (oc_lstore 4 284)), (284, om_p (oc_iinc 6 (1) 287)), (287, om_p (oc_iinc 1 (1) 290)), (290, om_p (oc_goto 247)), (293, om_p (oc_iload 6 295)), (295, om_p (oc_ci (1) 296)), (296, om_p (oc_icmp_lt 306 299)), (299, om_p (oc_iload 6 301)), (301, om_p (oc_ci (10) 303)), (303, om_p (oc_icmp_le 308 306)), (306, om_p (oc_ci (0) 307)), (307, om_zret), (308, om_p (oc_aload 0 309)), (309, om_p (oc_iload 3 310)), (310, om_p (oc_if_eq 323 313)), (313, om_p (oc_aload 0 314)), (314, om_getf gM 9 317), (317, om_p (oc_lload 4 319)), (319, om_p (oc_ladd 320)), (320, om_p (oc_goto 330)), (323, om_p (oc_aload 0 324)), (324, om_getf gM 9 327), (327, om_p (oc_lload 4 329)), (329, om_p (oc_lsub 330)), (330, om_putl gM 9 333), (333, om_p (oc_iload 1 334)), (334, om_p (oc_aload 0 335)), (335, om_getf gM 2 338), (338, om_p (oc_icmp_ne 345 341)), (341, om_p (oc_ci (1) 342)), (342, om_p (oc_goto 346)), (345, om_p (oc_ci (0) 346)), (346, om_zret)]
set_option maxRecDepth 20000 in
theorem okm_Mo_says {l : Launch} {B : zd_B} (hG : zd_G B) (hl : l.stackTraces = false) : ∀ q ∈ cm_Mo_says l B, zm_ok l B gM m_Mo_says q.1 q.2 := by
  unfold cm_Mo_says
  refine zm_ac (om_pk nt_aload (ok_aload_n (l := l) (B := B) (y := m_Mo_says) (pc := 0) (k := 0) rfl (zd_dr dc_Mo_says 0 rfl))) ?_
  refine zm_ac (om_pk nt_ci (ok_iconst (l := l) (B := B) (y := m_Mo_says) (pc := 1) (n := (0)) (zd_dr dc_Mo_says 1 rfl) rfl)) ?_
  refine zm_ac (ok_mcallv rfl (ok_callv (l := l) (B := B) (y := m_Mo_says) (pc := 2) hG (ci := 8) rfl cf_Mo_says_Mo_at rfl (List.mem_of_getElem? (i := 971) (by decide +kernel)) (List.mem_of_getElem? (i := 973) (by decide +kernel)) (List.mem_of_getElem? (i := 28) (by decide +kernel)) (zd_dr dc_Mo_says 2 rfl))) ?_
  refine zm_ac (om_pk nt_ci (ok_bipush (l := l) (B := B) (y := m_Mo_says) (pc := 5) (n := (43)) (zd_dr dc_Mo_says 3 rfl) rfl)) ?_
  refine zm_ac (om_pk nt_icmp_eq (ok_icmp_eq (l := l) (B := B) (y := m_Mo_says) (pc := 7) (zd_dr dc_Mo_says 4 rfl) (by decide))) ?_
  refine zm_ac (om_pk nt_aload (ok_aload_n (l := l) (B := B) (y := m_Mo_says) (pc := 10) (k := 0) rfl (zd_dr dc_Mo_says 5 rfl))) ?_
  refine zm_ac (om_pk nt_ci (ok_iconst (l := l) (B := B) (y := m_Mo_says) (pc := 11) (n := (0)) (zd_dr dc_Mo_says 6 rfl) rfl)) ?_
  refine zm_ac (ok_mcallv rfl (ok_callv (l := l) (B := B) (y := m_Mo_says) (pc := 12) hG (ci := 8) rfl cf_Mo_says_Mo_at rfl (List.mem_of_getElem? (i := 971) (by decide +kernel)) (List.mem_of_getElem? (i := 973) (by decide +kernel)) (List.mem_of_getElem? (i := 28) (by decide +kernel)) (zd_dr dc_Mo_says 7 rfl))) ?_
  refine zm_ac (om_pk nt_ci (ok_bipush (l := l) (B := B) (y := m_Mo_says) (pc := 15) (n := (45)) (zd_dr dc_Mo_says 8 rfl) rfl)) ?_
  refine zm_ac (om_pk nt_icmp_ne (ok_icmp_ne (l := l) (B := B) (y := m_Mo_says) (pc := 17) (zd_dr dc_Mo_says 9 rfl) (by decide))) ?_
  refine zm_ac (om_pk nt_ci (ok_iconst (l := l) (B := B) (y := m_Mo_says) (pc := 20) (n := (1)) (zd_dr dc_Mo_says 10 rfl) rfl)) ?_
  refine zm_ac (om_pk nt_goto (ok_goto (l := l) (B := B) (y := m_Mo_says) (pc := 21) (zd_dr dc_Mo_says 11 rfl) (by decide))) ?_
  refine zm_ac (om_pk nt_ci (ok_iconst (l := l) (B := B) (y := m_Mo_says) (pc := 24) (n := (0)) (zd_dr dc_Mo_says 12 rfl) rfl)) ?_
  refine zm_ac (om_pk nt_istore (ok_istore_n (l := l) (B := B) (y := m_Mo_says) (pc := 25) (k := 1) rfl (zd_dr dc_Mo_says 13 rfl) (by decide))) ?_
  refine zm_ac (om_pk nt_aload (ok_aload_n (l := l) (B := B) (y := m_Mo_says) (pc := 26) (k := 0) rfl (zd_dr dc_Mo_says 14 rfl))) ?_
  refine zm_ac (om_pk nt_aload (ok_aload_n (l := l) (B := B) (y := m_Mo_says) (pc := 27) (k := 0) rfl (zd_dr dc_Mo_says 15 rfl))) ?_
  refine zm_ac (om_pk nt_ci (ok_iconst (l := l) (B := B) (y := m_Mo_says) (pc := 28) (n := (0)) (zd_dr dc_Mo_says 16 rfl) rfl)) ?_
  refine zm_ac (ok_mcallv rfl (ok_callv (l := l) (B := B) (y := m_Mo_says) (pc := 29) hG (ci := 8) rfl cf_Mo_says_Mo_at rfl (List.mem_of_getElem? (i := 971) (by decide +kernel)) (List.mem_of_getElem? (i := 973) (by decide +kernel)) (List.mem_of_getElem? (i := 28) (by decide +kernel)) (zd_dr dc_Mo_says 17 rfl))) ?_
  refine zm_ac (om_pk nt_ci (ok_bipush (l := l) (B := B) (y := m_Mo_says) (pc := 32) (n := (45)) (zd_dr dc_Mo_says 18 rfl) rfl)) ?_
  refine zm_ac (om_pk nt_icmp_ne (ok_icmp_ne (l := l) (B := B) (y := m_Mo_says) (pc := 34) (zd_dr dc_Mo_says 19 rfl) (by decide))) ?_
  refine zm_ac (om_pk nt_ci (ok_iconst (l := l) (B := B) (y := m_Mo_says) (pc := 37) (n := (1)) (zd_dr dc_Mo_says 20 rfl) rfl)) ?_
  refine zm_ac (om_pk nt_goto (ok_goto (l := l) (B := B) (y := m_Mo_says) (pc := 38) (zd_dr dc_Mo_says 21 rfl) (by decide))) ?_
  refine zm_ac (om_pk nt_ci (ok_iconst (l := l) (B := B) (y := m_Mo_says) (pc := 41) (n := (0)) (zd_dr dc_Mo_says 22 rfl) rfl)) ?_
  refine zm_ac (ok_mputb rfl (ok_putf (l := l) (B := B) (y := m_Mo_says) (pc := 42) hG (C := zR8) (T := zT8) (N := 21) (ci := 8) (k := 11) rfl zl8 zt8 (by decide) (List.mem_of_getElem? (i := 893) (by decide +kernel)) rfl (zd_dr dc_Mo_says 23 rfl))) ?_
  refine zm_ac (om_pk nt_aload (ok_aload_n (l := l) (B := B) (y := m_Mo_says) (pc := 45) (k := 0) rfl (zd_dr dc_Mo_says 24 rfl))) ?_
  refine zm_ac (om_pk nt_ci (ok_iconst (l := l) (B := B) (y := m_Mo_says) (pc := 46) (n := (0)) (zd_dr dc_Mo_says 25 rfl) rfl)) ?_
  refine zm_ac (ok_mputi rfl (ok_putf (l := l) (B := B) (y := m_Mo_says) (pc := 47) hG (C := zR8) (T := zT8) (N := 21) (ci := 8) (k := 8) rfl zl8 zt8 (by decide) (List.mem_of_getElem? (i := 890) (by decide +kernel)) rfl (zd_dr dc_Mo_says 26 rfl))) ?_
  refine zm_ac (om_pk nt_aload (ok_aload_n (l := l) (B := B) (y := m_Mo_says) (pc := 50) (k := 0) rfl (zd_dr dc_Mo_says 27 rfl))) ?_
  refine zm_ac (om_pk nt_cl (ok_lconst (l := l) (B := B) (y := m_Mo_says) (pc := 51) (n := 0) (zd_dr dc_Mo_says 28 rfl) rfl)) ?_
  refine zm_ac (ok_mputl rfl (ok_putf (l := l) (B := B) (y := m_Mo_says) (pc := 52) hG (C := zR8) (T := zT8) (N := 21) (ci := 8) (k := 9) rfl zl8 zt8 (by decide) (List.mem_of_getElem? (i := 891) (by decide +kernel)) rfl (zd_dr dc_Mo_says 29 rfl))) ?_
  refine zm_ac (om_pk nt_aload (ok_aload_n (l := l) (B := B) (y := m_Mo_says) (pc := 55) (k := 0) rfl (zd_dr dc_Mo_says 30 rfl))) ?_
  refine zm_ac (om_pk nt_ci (ok_iconst (l := l) (B := B) (y := m_Mo_says) (pc := 56) (n := (0)) (zd_dr dc_Mo_says 31 rfl) rfl)) ?_
  refine zm_ac (ok_mputb rfl (ok_putf (l := l) (B := B) (y := m_Mo_says) (pc := 57) hG (C := zR8) (T := zT8) (N := 21) (ci := 8) (k := 10) rfl zl8 zt8 (by decide) (List.mem_of_getElem? (i := 892) (by decide +kernel)) rfl (zd_dr dc_Mo_says 32 rfl))) ?_
  refine zm_ac (om_pk nt_ci (ok_iconst (l := l) (B := B) (y := m_Mo_says) (pc := 60) (n := (0)) (zd_dr dc_Mo_says 33 rfl) rfl)) ?_
  refine zm_ac (om_pk nt_istore (ok_istore_n (l := l) (B := B) (y := m_Mo_says) (pc := 61) (k := 2) rfl (zd_dr dc_Mo_says 34 rfl) (by decide))) ?_
  refine zm_ac (om_pk nt_aload (ok_aload_n (l := l) (B := B) (y := m_Mo_says) (pc := 62) (k := 0) rfl (zd_dr dc_Mo_says 35 rfl))) ?_
  refine zm_ac (om_pk nt_iload (ok_iload_n (l := l) (B := B) (y := m_Mo_says) (pc := 63) (k := 1) rfl (zd_dr dc_Mo_says 36 rfl))) ?_
  refine zm_ac (ok_mcallv rfl (ok_callv (l := l) (B := B) (y := m_Mo_says) (pc := 64) hG (ci := 8) rfl cf_Mo_says_Mo_at rfl (List.mem_of_getElem? (i := 971) (by decide +kernel)) (List.mem_of_getElem? (i := 973) (by decide +kernel)) (List.mem_of_getElem? (i := 28) (by decide +kernel)) (zd_dr dc_Mo_says 37 rfl))) ?_
  refine zm_ac (ok_mcalls (ok_calls (l := l) (B := B) (y := m_Mo_says) (pc := 67) hG cf_Mo_says_Mo_isDigit rfl (List.mem_of_getElem? (i := 975) (by decide +kernel)) (List.mem_of_getElem? (i := 976) (by decide +kernel)) (List.mem_of_getElem? (i := 64) (by decide +kernel)) (zd_dr dc_Mo_says 38 rfl))) ?_
  refine zm_ac (om_pk nt_if_ne (ok_if_ne (l := l) (B := B) (y := m_Mo_says) (pc := 70) (zd_dr dc_Mo_says 39 rfl) (by decide))) ?_
  refine zm_ac (om_pk nt_aload (ok_aload_n (l := l) (B := B) (y := m_Mo_says) (pc := 73) (k := 0) rfl (zd_dr dc_Mo_says 40 rfl))) ?_
  refine zm_ac (om_pk nt_iload (ok_iload_n (l := l) (B := B) (y := m_Mo_says) (pc := 74) (k := 1) rfl (zd_dr dc_Mo_says 41 rfl))) ?_
  refine zm_ac (ok_mcallv rfl (ok_callv (l := l) (B := B) (y := m_Mo_says) (pc := 75) hG (ci := 8) rfl cf_Mo_says_Mo_at rfl (List.mem_of_getElem? (i := 971) (by decide +kernel)) (List.mem_of_getElem? (i := 973) (by decide +kernel)) (List.mem_of_getElem? (i := 28) (by decide +kernel)) (zd_dr dc_Mo_says 42 rfl))) ?_
  refine zm_ac (om_pk nt_ci (ok_bipush (l := l) (B := B) (y := m_Mo_says) (pc := 78) (n := (46)) (zd_dr dc_Mo_says 43 rfl) rfl)) ?_
  refine zm_ac (om_pk nt_icmp_ne (ok_icmp_ne (l := l) (B := B) (y := m_Mo_says) (pc := 80) (zd_dr dc_Mo_says 44 rfl) (by decide))) ?_
  refine zm_ac (om_pk nt_iload (ok_iload_n (l := l) (B := B) (y := m_Mo_says) (pc := 83) (k := 2) rfl (zd_dr dc_Mo_says 45 rfl))) ?_
  refine zm_ac (om_pk nt_if_ne (ok_if_ne (l := l) (B := B) (y := m_Mo_says) (pc := 84) (zd_dr dc_Mo_says 46 rfl) (by decide))) ?_
  refine zm_ac (om_pk nt_iload (ok_iload_n (l := l) (B := B) (y := m_Mo_says) (pc := 87) (k := 2) rfl (zd_dr dc_Mo_says 47 rfl))) ?_
  refine zm_ac (om_pk nt_if_ne (ok_if_ne (l := l) (B := B) (y := m_Mo_says) (pc := 88) (zd_dr dc_Mo_says 48 rfl) (by decide))) ?_
  refine zm_ac (om_pk nt_aload (ok_aload_n (l := l) (B := B) (y := m_Mo_says) (pc := 91) (k := 0) rfl (zd_dr dc_Mo_says 49 rfl))) ?_
  refine zm_ac (om_pk nt_iload (ok_iload_n (l := l) (B := B) (y := m_Mo_says) (pc := 92) (k := 1) rfl (zd_dr dc_Mo_says 50 rfl))) ?_
  refine zm_ac (ok_mcallv rfl (ok_callv (l := l) (B := B) (y := m_Mo_says) (pc := 93) hG (ci := 8) rfl cf_Mo_says_Mo_at rfl (List.mem_of_getElem? (i := 971) (by decide +kernel)) (List.mem_of_getElem? (i := 973) (by decide +kernel)) (List.mem_of_getElem? (i := 28) (by decide +kernel)) (zd_dr dc_Mo_says 51 rfl))) ?_
  refine zm_ac (om_pk nt_ci (ok_bipush (l := l) (B := B) (y := m_Mo_says) (pc := 96) (n := (46)) (zd_dr dc_Mo_says 52 rfl) rfl)) ?_
  refine zm_ac (om_pk nt_icmp_ne (ok_icmp_ne (l := l) (B := B) (y := m_Mo_says) (pc := 98) (zd_dr dc_Mo_says 53 rfl) (by decide))) ?_
  refine zm_ac (om_pk nt_ci (ok_iconst (l := l) (B := B) (y := m_Mo_says) (pc := 101) (n := (1)) (zd_dr dc_Mo_says 54 rfl) rfl)) ?_
  refine zm_ac (om_pk nt_goto (ok_goto (l := l) (B := B) (y := m_Mo_says) (pc := 102) (zd_dr dc_Mo_says 55 rfl) (by decide))) ?_
  refine zm_ac (om_pk nt_ci (ok_iconst (l := l) (B := B) (y := m_Mo_says) (pc := 105) (n := (0)) (zd_dr dc_Mo_says 56 rfl) rfl)) ?_
  refine zm_ac (om_pk nt_istore (ok_istore_n (l := l) (B := B) (y := m_Mo_says) (pc := 106) (k := 2) rfl (zd_dr dc_Mo_says 57 rfl) (by decide))) ?_
  refine zm_ac (om_pk nt_aload (ok_aload_n (l := l) (B := B) (y := m_Mo_says) (pc := 107) (k := 0) rfl (zd_dr dc_Mo_says 58 rfl))) ?_
  refine zm_ac (om_pk nt_iload (ok_iload_n (l := l) (B := B) (y := m_Mo_says) (pc := 108) (k := 1) rfl (zd_dr dc_Mo_says 59 rfl))) ?_
  refine zm_ac (ok_mcallv rfl (ok_callv (l := l) (B := B) (y := m_Mo_says) (pc := 109) hG (ci := 8) rfl cf_Mo_says_Mo_at rfl (List.mem_of_getElem? (i := 971) (by decide +kernel)) (List.mem_of_getElem? (i := 973) (by decide +kernel)) (List.mem_of_getElem? (i := 28) (by decide +kernel)) (zd_dr dc_Mo_says 60 rfl))) ?_
  refine zm_ac (om_pk nt_ci (ok_bipush (l := l) (B := B) (y := m_Mo_says) (pc := 112) (n := (46)) (zd_dr dc_Mo_says 61 rfl) rfl)) ?_
  refine zm_ac (om_pk nt_icmp_eq (ok_icmp_eq (l := l) (B := B) (y := m_Mo_says) (pc := 114) (zd_dr dc_Mo_says 62 rfl) (by decide))) ?_
  refine zm_ac (om_pk nt_aload (ok_aload_n (l := l) (B := B) (y := m_Mo_says) (pc := 117) (k := 0) rfl (zd_dr dc_Mo_says 63 rfl))) ?_
  refine zm_ac (ok_mgetf rfl (ok_getf (l := l) (B := B) (y := m_Mo_says) (pc := 118) hG (C := zR8) (T := zT8) (N := 21) (ci := 8) (k := 7) rfl zl8 (by decide) (List.mem_of_getElem? (i := 889) (by decide +kernel)) (zd_dr dc_Mo_says 64 rfl))) ?_
  refine zm_ac (om_pk nt_aload (ok_aload_n (l := l) (B := B) (y := m_Mo_says) (pc := 121) (k := 0) rfl (zd_dr dc_Mo_says 65 rfl))) ?_
  refine zm_ac (ok_mgetf rfl (ok_getf (l := l) (B := B) (y := m_Mo_says) (pc := 122) hG (C := zR8) (T := zT8) (N := 21) (ci := 8) (k := 8) rfl zl8 (by decide) (List.mem_of_getElem? (i := 890) (by decide +kernel)) (zd_dr dc_Mo_says 66 rfl))) ?_
  refine zm_ac (om_pk nt_aload (ok_aload_n (l := l) (B := B) (y := m_Mo_says) (pc := 125) (k := 0) rfl (zd_dr dc_Mo_says 67 rfl))) ?_
  refine zm_ac (om_pk nt_iload (ok_iload_n (l := l) (B := B) (y := m_Mo_says) (pc := 126) (k := 1) rfl (zd_dr dc_Mo_says 68 rfl))) ?_
  refine zm_ac (ok_mcallv rfl (ok_callv (l := l) (B := B) (y := m_Mo_says) (pc := 127) hG (ci := 8) rfl cf_Mo_says_Mo_at rfl (List.mem_of_getElem? (i := 971) (by decide +kernel)) (List.mem_of_getElem? (i := 973) (by decide +kernel)) (List.mem_of_getElem? (i := 28) (by decide +kernel)) (zd_dr dc_Mo_says 69 rfl))) ?_
  refine zm_ac (om_pk nt_ci (ok_bipush (l := l) (B := B) (y := m_Mo_says) (pc := 130) (n := (48)) (zd_dr dc_Mo_says 70 rfl) rfl)) ?_
  refine zm_ac (om_pk nt_isub (ok_isub (l := l) (B := B) (y := m_Mo_says) (pc := 132) (zd_dr dc_Mo_says 71 rfl))) ?_
  refine zm_ac (ok_miastore (ok_iastore (l := l) (B := B) (y := m_Mo_says) (pc := 133) hG (zd_dr dc_Mo_says 72 rfl))) ?_
  refine zm_ac (om_pk nt_aload (ok_aload_n (l := l) (B := B) (y := m_Mo_says) (pc := 134) (k := 0) rfl (zd_dr dc_Mo_says 73 rfl))) ?_
  refine zm_ac (om_pk nt_dup (ok_dup (l := l) (B := B) (y := m_Mo_says) (pc := 135) (zd_dr dc_Mo_says 74 rfl))) ?_
  refine zm_ac (ok_mgetf rfl (ok_getf (l := l) (B := B) (y := m_Mo_says) (pc := 136) hG (C := zR8) (T := zT8) (N := 21) (ci := 8) (k := 8) rfl zl8 (by decide) (List.mem_of_getElem? (i := 890) (by decide +kernel)) (zd_dr dc_Mo_says 75 rfl))) ?_
  refine zm_ac (om_pk nt_ci (ok_iconst (l := l) (B := B) (y := m_Mo_says) (pc := 139) (n := (1)) (zd_dr dc_Mo_says 76 rfl) rfl)) ?_
  refine zm_ac (om_pk nt_iadd (ok_iadd (l := l) (B := B) (y := m_Mo_says) (pc := 140) (zd_dr dc_Mo_says 77 rfl))) ?_
  refine zm_ac (ok_mputi rfl (ok_putf (l := l) (B := B) (y := m_Mo_says) (pc := 141) hG (C := zR8) (T := zT8) (N := 21) (ci := 8) (k := 8) rfl zl8 zt8 (by decide) (List.mem_of_getElem? (i := 890) (by decide +kernel)) rfl (zd_dr dc_Mo_says 78 rfl))) ?_
  refine zm_ac (om_pk nt_aload (ok_aload_n (l := l) (B := B) (y := m_Mo_says) (pc := 144) (k := 0) rfl (zd_dr dc_Mo_says 79 rfl))) ?_
  refine zm_ac (om_pk nt_iload (ok_iload_n (l := l) (B := B) (y := m_Mo_says) (pc := 145) (k := 2) rfl (zd_dr dc_Mo_says 80 rfl))) ?_
  refine zm_ac (om_pk nt_if_eq (ok_if_eq (l := l) (B := B) (y := m_Mo_says) (pc := 146) (zd_dr dc_Mo_says 81 rfl) (by decide))) ?_
  refine zm_ac (om_pk nt_aload (ok_aload_n (l := l) (B := B) (y := m_Mo_says) (pc := 149) (k := 0) rfl (zd_dr dc_Mo_says 82 rfl))) ?_
  refine zm_ac (ok_mgetf rfl (ok_getf (l := l) (B := B) (y := m_Mo_says) (pc := 150) hG (C := zR8) (T := zT8) (N := 21) (ci := 8) (k := 9) rfl zl8 (by decide) (List.mem_of_getElem? (i := 891) (by decide +kernel)) (zd_dr dc_Mo_says 83 rfl))) ?_
  refine zm_ac (om_pk nt_cl (ok_lconst (l := l) (B := B) (y := m_Mo_says) (pc := 153) (n := 1) (zd_dr dc_Mo_says 84 rfl) rfl)) ?_
  refine zm_ac (om_pk nt_ladd (ok_ladd (l := l) (B := B) (y := m_Mo_says) (pc := 154) (zd_dr dc_Mo_says 85 rfl))) ?_
  refine zm_ac (om_pk nt_goto (ok_goto (l := l) (B := B) (y := m_Mo_says) (pc := 155) (zd_dr dc_Mo_says 86 rfl) (by decide))) ?_
  refine zm_ac (om_pk nt_aload (ok_aload_n (l := l) (B := B) (y := m_Mo_says) (pc := 158) (k := 0) rfl (zd_dr dc_Mo_says 87 rfl))) ?_
  refine zm_ac (ok_mgetf rfl (ok_getf (l := l) (B := B) (y := m_Mo_says) (pc := 159) hG (C := zR8) (T := zT8) (N := 21) (ci := 8) (k := 9) rfl zl8 (by decide) (List.mem_of_getElem? (i := 891) (by decide +kernel)) (zd_dr dc_Mo_says 88 rfl))) ?_
  refine zm_ac (ok_mputl rfl (ok_putf (l := l) (B := B) (y := m_Mo_says) (pc := 162) hG (C := zR8) (T := zT8) (N := 21) (ci := 8) (k := 9) rfl zl8 zt8 (by decide) (List.mem_of_getElem? (i := 891) (by decide +kernel)) rfl (zd_dr dc_Mo_says 89 rfl))) ?_
  refine zm_ac (om_pk nt_iinc (ok_iinc (l := l) (B := B) (y := m_Mo_says) (pc := 165) (zd_dr dc_Mo_says 90 rfl) (by decide) rfl)) ?_
  refine zm_ac (om_pk nt_goto (ok_goto (l := l) (B := B) (y := m_Mo_says) (pc := 168) (zd_dr dc_Mo_says 91 rfl) (by decide))) ?_
  refine zm_ac (om_pk nt_aload (ok_aload_n (l := l) (B := B) (y := m_Mo_says) (pc := 171) (k := 0) rfl (zd_dr dc_Mo_says 92 rfl))) ?_
  refine zm_ac (ok_mgetf rfl (ok_getf (l := l) (B := B) (y := m_Mo_says) (pc := 172) hG (C := zR8) (T := zT8) (N := 21) (ci := 8) (k := 8) rfl zl8 (by decide) (List.mem_of_getElem? (i := 890) (by decide +kernel)) (zd_dr dc_Mo_says 93 rfl))) ?_
  refine zm_ac (om_pk nt_if_ne (ok_if_ne (l := l) (B := B) (y := m_Mo_says) (pc := 175) (zd_dr dc_Mo_says 94 rfl) (by decide))) ?_
  refine zm_ac (om_pk nt_ci (ok_iconst (l := l) (B := B) (y := m_Mo_says) (pc := 178) (n := (0)) (zd_dr dc_Mo_says 95 rfl) rfl)) ?_
  refine zm_ac (ok_mzret (ok_iret (l := l) (B := B) (y := m_Mo_says) (pc := 179) rfl (zd_dr dc_Mo_says 96 rfl))) ?_
  refine zm_ac (om_pk nt_aload (ok_aload_n (l := l) (B := B) (y := m_Mo_says) (pc := 180) (k := 0) rfl (zd_dr dc_Mo_says 97 rfl))) ?_
  refine zm_ac (om_pk nt_iload (ok_iload_n (l := l) (B := B) (y := m_Mo_says) (pc := 181) (k := 1) rfl (zd_dr dc_Mo_says 98 rfl))) ?_
  refine zm_ac (ok_mcallv rfl (ok_callv (l := l) (B := B) (y := m_Mo_says) (pc := 182) hG (ci := 8) rfl cf_Mo_says_Mo_at rfl (List.mem_of_getElem? (i := 971) (by decide +kernel)) (List.mem_of_getElem? (i := 973) (by decide +kernel)) (List.mem_of_getElem? (i := 28) (by decide +kernel)) (zd_dr dc_Mo_says 99 rfl))) ?_
  refine zm_ac (om_pk nt_ci (ok_bipush (l := l) (B := B) (y := m_Mo_says) (pc := 185) (n := (101)) (zd_dr dc_Mo_says 100 rfl) rfl)) ?_
  refine zm_ac (om_pk nt_icmp_eq (ok_icmp_eq (l := l) (B := B) (y := m_Mo_says) (pc := 187) (zd_dr dc_Mo_says 101 rfl) (by decide))) ?_
  refine zm_ac (om_pk nt_aload (ok_aload_n (l := l) (B := B) (y := m_Mo_says) (pc := 190) (k := 0) rfl (zd_dr dc_Mo_says 102 rfl))) ?_
  refine zm_ac (om_pk nt_iload (ok_iload_n (l := l) (B := B) (y := m_Mo_says) (pc := 191) (k := 1) rfl (zd_dr dc_Mo_says 103 rfl))) ?_
  refine zm_ac (ok_mcallv rfl (ok_callv (l := l) (B := B) (y := m_Mo_says) (pc := 192) hG (ci := 8) rfl cf_Mo_says_Mo_at rfl (List.mem_of_getElem? (i := 971) (by decide +kernel)) (List.mem_of_getElem? (i := 973) (by decide +kernel)) (List.mem_of_getElem? (i := 28) (by decide +kernel)) (zd_dr dc_Mo_says 104 rfl))) ?_
  refine zm_ac (om_pk nt_ci (ok_bipush (l := l) (B := B) (y := m_Mo_says) (pc := 195) (n := (69)) (zd_dr dc_Mo_says 105 rfl) rfl)) ?_
  refine zm_ac (om_pk nt_icmp_ne (ok_icmp_ne (l := l) (B := B) (y := m_Mo_says) (pc := 197) (zd_dr dc_Mo_says 106 rfl) (by decide))) ?_
  refine zm_ac (om_pk nt_iinc (ok_iinc (l := l) (B := B) (y := m_Mo_says) (pc := 200) (zd_dr dc_Mo_says 107 rfl) (by decide) rfl)) ?_
  refine zm_ac (om_pk nt_aload (ok_aload_n (l := l) (B := B) (y := m_Mo_says) (pc := 203) (k := 0) rfl (zd_dr dc_Mo_says 108 rfl))) ?_
  refine zm_ac (om_pk nt_iload (ok_iload_n (l := l) (B := B) (y := m_Mo_says) (pc := 204) (k := 1) rfl (zd_dr dc_Mo_says 109 rfl))) ?_
  refine zm_ac (ok_mcallv rfl (ok_callv (l := l) (B := B) (y := m_Mo_says) (pc := 205) hG (ci := 8) rfl cf_Mo_says_Mo_at rfl (List.mem_of_getElem? (i := 971) (by decide +kernel)) (List.mem_of_getElem? (i := 973) (by decide +kernel)) (List.mem_of_getElem? (i := 28) (by decide +kernel)) (zd_dr dc_Mo_says 110 rfl))) ?_
  refine zm_ac (om_pk nt_ci (ok_bipush (l := l) (B := B) (y := m_Mo_says) (pc := 208) (n := (45)) (zd_dr dc_Mo_says 111 rfl) rfl)) ?_
  refine zm_ac (om_pk nt_icmp_ne (ok_icmp_ne (l := l) (B := B) (y := m_Mo_says) (pc := 210) (zd_dr dc_Mo_says 112 rfl) (by decide))) ?_
  refine zm_ac (om_pk nt_ci (ok_iconst (l := l) (B := B) (y := m_Mo_says) (pc := 213) (n := (1)) (zd_dr dc_Mo_says 113 rfl) rfl)) ?_
  refine zm_ac (om_pk nt_goto (ok_goto (l := l) (B := B) (y := m_Mo_says) (pc := 214) (zd_dr dc_Mo_says 114 rfl) (by decide))) ?_
  refine zm_ac (om_pk nt_ci (ok_iconst (l := l) (B := B) (y := m_Mo_says) (pc := 217) (n := (0)) (zd_dr dc_Mo_says 115 rfl) rfl)) ?_
  refine zm_ac (om_pk nt_istore (ok_istore_n (l := l) (B := B) (y := m_Mo_says) (pc := 218) (k := 3) rfl (zd_dr dc_Mo_says 116 rfl) (by decide))) ?_
  refine zm_ac (om_pk nt_iload (ok_iload_n (l := l) (B := B) (y := m_Mo_says) (pc := 219) (k := 3) rfl (zd_dr dc_Mo_says 117 rfl))) ?_
  refine zm_ac (om_pk nt_if_ne (ok_if_ne (l := l) (B := B) (y := m_Mo_says) (pc := 220) (zd_dr dc_Mo_says 118 rfl) (by decide))) ?_
  refine zm_ac (om_pk nt_aload (ok_aload_n (l := l) (B := B) (y := m_Mo_says) (pc := 223) (k := 0) rfl (zd_dr dc_Mo_says 119 rfl))) ?_
  refine zm_ac (om_pk nt_iload (ok_iload_n (l := l) (B := B) (y := m_Mo_says) (pc := 224) (k := 1) rfl (zd_dr dc_Mo_says 120 rfl))) ?_
  refine zm_ac (ok_mcallv rfl (ok_callv (l := l) (B := B) (y := m_Mo_says) (pc := 225) hG (ci := 8) rfl cf_Mo_says_Mo_at rfl (List.mem_of_getElem? (i := 971) (by decide +kernel)) (List.mem_of_getElem? (i := 973) (by decide +kernel)) (List.mem_of_getElem? (i := 28) (by decide +kernel)) (zd_dr dc_Mo_says 121 rfl))) ?_
  refine zm_ac (om_pk nt_ci (ok_bipush (l := l) (B := B) (y := m_Mo_says) (pc := 228) (n := (43)) (zd_dr dc_Mo_says 122 rfl) rfl)) ?_
  refine zm_ac (om_pk nt_icmp_ne (ok_icmp_ne (l := l) (B := B) (y := m_Mo_says) (pc := 230) (zd_dr dc_Mo_says 123 rfl) (by decide))) ?_
  refine zm_ac (om_pk nt_iload (ok_iload_n (l := l) (B := B) (y := m_Mo_says) (pc := 233) (k := 1) rfl (zd_dr dc_Mo_says 124 rfl))) ?_
  refine zm_ac (om_pk nt_ci (ok_iconst (l := l) (B := B) (y := m_Mo_says) (pc := 234) (n := (1)) (zd_dr dc_Mo_says 125 rfl) rfl)) ?_
  refine zm_ac (om_pk nt_iadd (ok_iadd (l := l) (B := B) (y := m_Mo_says) (pc := 235) (zd_dr dc_Mo_says 126 rfl))) ?_
  refine zm_ac (om_pk nt_goto (ok_goto (l := l) (B := B) (y := m_Mo_says) (pc := 236) (zd_dr dc_Mo_says 127 rfl) (by decide))) ?_
  refine zm_ac (om_pk nt_iload (ok_iload_n (l := l) (B := B) (y := m_Mo_says) (pc := 239) (k := 1) rfl (zd_dr dc_Mo_says 128 rfl))) ?_
  refine zm_ac (om_pk nt_istore (ok_istore_n (l := l) (B := B) (y := m_Mo_says) (pc := 240) (k := 1) rfl (zd_dr dc_Mo_says 129 rfl) (by decide))) ?_
  refine zm_ac (om_pk nt_cl (ok_lconst (l := l) (B := B) (y := m_Mo_says) (pc := 241) (n := 0) (zd_dr dc_Mo_says 130 rfl) rfl)) ?_
  refine zm_ac (om_pk nt_lstore (ok_lstore (l := l) (B := B) (y := m_Mo_says) (pc := 242) (zd_dr dc_Mo_says 131 rfl) (by decide))) ?_
  refine zm_ac (om_pk nt_ci (ok_iconst (l := l) (B := B) (y := m_Mo_says) (pc := 244) (n := (0)) (zd_dr dc_Mo_says 132 rfl) rfl)) ?_
  refine zm_ac (om_pk nt_istore (ok_istore (l := l) (B := B) (y := m_Mo_says) (pc := 245) (zd_dr dc_Mo_says 133 rfl) (by decide))) ?_
  refine zm_ac (om_pk nt_aload (ok_aload_n (l := l) (B := B) (y := m_Mo_says) (pc := 247) (k := 0) rfl (zd_dr dc_Mo_says 134 rfl))) ?_
  refine zm_ac (om_pk nt_iload (ok_iload_n (l := l) (B := B) (y := m_Mo_says) (pc := 248) (k := 1) rfl (zd_dr dc_Mo_says 135 rfl))) ?_
  refine zm_ac (ok_mcallv rfl (ok_callv (l := l) (B := B) (y := m_Mo_says) (pc := 249) hG (ci := 8) rfl cf_Mo_says_Mo_at rfl (List.mem_of_getElem? (i := 971) (by decide +kernel)) (List.mem_of_getElem? (i := 973) (by decide +kernel)) (List.mem_of_getElem? (i := 28) (by decide +kernel)) (zd_dr dc_Mo_says 136 rfl))) ?_
  refine zm_ac (ok_mcalls (ok_calls (l := l) (B := B) (y := m_Mo_says) (pc := 252) hG cf_Mo_says_Mo_isDigit rfl (List.mem_of_getElem? (i := 975) (by decide +kernel)) (List.mem_of_getElem? (i := 976) (by decide +kernel)) (List.mem_of_getElem? (i := 64) (by decide +kernel)) (zd_dr dc_Mo_says 137 rfl))) ?_
  refine zm_ac (om_pk nt_if_eq (ok_if_eq (l := l) (B := B) (y := m_Mo_says) (pc := 255) (zd_dr dc_Mo_says 138 rfl) (by decide))) ?_
  refine zm_ac (om_pk nt_iload (ok_iload (l := l) (B := B) (y := m_Mo_says) (pc := 258) (zd_dr dc_Mo_says 139 rfl))) ?_
  refine zm_ac (om_pk nt_ci (ok_bipush (l := l) (B := B) (y := m_Mo_says) (pc := 260) (n := (11)) (zd_dr dc_Mo_says 140 rfl) rfl)) ?_
  refine zm_ac (om_pk nt_icmp_ge (ok_icmp_ge (l := l) (B := B) (y := m_Mo_says) (pc := 262) (zd_dr dc_Mo_says 141 rfl) (by decide))) ?_
  refine zm_ac (om_pk nt_cl (ok_ldc2 (l := l) (B := B) (y := m_Mo_says) (pc := 265) hG (List.mem_of_getElem? (i := 978) (by decide +kernel)) (zd_dr dc_Mo_says 142 rfl))) ?_
  refine zm_ac (om_pk nt_lload (ok_lload (l := l) (B := B) (y := m_Mo_says) (pc := 268) (zd_dr dc_Mo_says 143 rfl))) ?_
  refine zm_ac (om_pk nt_lmul (ok_lmul (l := l) (B := B) (y := m_Mo_says) (pc := 270) (zd_dr dc_Mo_says 144 rfl))) ?_
  refine zm_ac (om_pk nt_aload (ok_aload_n (l := l) (B := B) (y := m_Mo_says) (pc := 271) (k := 0) rfl (zd_dr dc_Mo_says 145 rfl))) ?_
  refine zm_ac (om_pk nt_iload (ok_iload_n (l := l) (B := B) (y := m_Mo_says) (pc := 272) (k := 1) rfl (zd_dr dc_Mo_says 146 rfl))) ?_
  refine zm_ac (ok_mcallv rfl (ok_callv (l := l) (B := B) (y := m_Mo_says) (pc := 273) hG (ci := 8) rfl cf_Mo_says_Mo_at rfl (List.mem_of_getElem? (i := 971) (by decide +kernel)) (List.mem_of_getElem? (i := 973) (by decide +kernel)) (List.mem_of_getElem? (i := 28) (by decide +kernel)) (zd_dr dc_Mo_says 147 rfl))) ?_
  refine zm_ac (om_pk nt_i2l (ok_i2l (l := l) (B := B) (y := m_Mo_says) (pc := 276) (zd_dr dc_Mo_says 148 rfl))) ?_
  refine zm_ac (om_pk nt_ladd (ok_ladd (l := l) (B := B) (y := m_Mo_says) (pc := 277) (zd_dr dc_Mo_says 149 rfl))) ?_
  refine zm_ac (om_pk nt_cl (ok_ldc2 (l := l) (B := B) (y := m_Mo_says) (pc := 278) hG (List.mem_of_getElem? (i := 979) (by decide +kernel)) (zd_dr dc_Mo_says 150 rfl))) ?_
  refine zm_ac (om_pk nt_lsub (ok_lsub (l := l) (B := B) (y := m_Mo_says) (pc := 281) (zd_dr dc_Mo_says 151 rfl))) ?_
  refine zm_ac (om_pk nt_lstore (ok_lstore (l := l) (B := B) (y := m_Mo_says) (pc := 282) (zd_dr dc_Mo_says 152 rfl) (by decide))) ?_
  refine zm_ac (om_pk nt_iinc (ok_iinc (l := l) (B := B) (y := m_Mo_says) (pc := 284) (zd_dr dc_Mo_says 153 rfl) (by decide) rfl)) ?_
  refine zm_ac (om_pk nt_iinc (ok_iinc (l := l) (B := B) (y := m_Mo_says) (pc := 287) (zd_dr dc_Mo_says 154 rfl) (by decide) rfl)) ?_
  refine zm_ac (om_pk nt_goto (ok_goto (l := l) (B := B) (y := m_Mo_says) (pc := 290) (zd_dr dc_Mo_says 155 rfl) (by decide))) ?_
  refine zm_ac (om_pk nt_iload (ok_iload (l := l) (B := B) (y := m_Mo_says) (pc := 293) (zd_dr dc_Mo_says 156 rfl))) ?_
  refine zm_ac (om_pk nt_ci (ok_iconst (l := l) (B := B) (y := m_Mo_says) (pc := 295) (n := (1)) (zd_dr dc_Mo_says 157 rfl) rfl)) ?_
  refine zm_ac (om_pk nt_icmp_lt (ok_icmp_lt (l := l) (B := B) (y := m_Mo_says) (pc := 296) (zd_dr dc_Mo_says 158 rfl) (by decide))) ?_
  refine zm_ac (om_pk nt_iload (ok_iload (l := l) (B := B) (y := m_Mo_says) (pc := 299) (zd_dr dc_Mo_says 159 rfl))) ?_
  refine zm_ac (om_pk nt_ci (ok_bipush (l := l) (B := B) (y := m_Mo_says) (pc := 301) (n := (10)) (zd_dr dc_Mo_says 160 rfl) rfl)) ?_
  refine zm_ac (om_pk nt_icmp_le (ok_icmp_le (l := l) (B := B) (y := m_Mo_says) (pc := 303) (zd_dr dc_Mo_says 161 rfl) (by decide))) ?_
  refine zm_ac (om_pk nt_ci (ok_iconst (l := l) (B := B) (y := m_Mo_says) (pc := 306) (n := (0)) (zd_dr dc_Mo_says 162 rfl) rfl)) ?_
  refine zm_ac (ok_mzret (ok_iret (l := l) (B := B) (y := m_Mo_says) (pc := 307) rfl (zd_dr dc_Mo_says 163 rfl))) ?_
  refine zm_ac (om_pk nt_aload (ok_aload_n (l := l) (B := B) (y := m_Mo_says) (pc := 308) (k := 0) rfl (zd_dr dc_Mo_says 164 rfl))) ?_
  refine zm_ac (om_pk nt_iload (ok_iload_n (l := l) (B := B) (y := m_Mo_says) (pc := 309) (k := 3) rfl (zd_dr dc_Mo_says 165 rfl))) ?_
  refine zm_ac (om_pk nt_if_eq (ok_if_eq (l := l) (B := B) (y := m_Mo_says) (pc := 310) (zd_dr dc_Mo_says 166 rfl) (by decide))) ?_
  refine zm_ac (om_pk nt_aload (ok_aload_n (l := l) (B := B) (y := m_Mo_says) (pc := 313) (k := 0) rfl (zd_dr dc_Mo_says 167 rfl))) ?_
  refine zm_ac (ok_mgetf rfl (ok_getf (l := l) (B := B) (y := m_Mo_says) (pc := 314) hG (C := zR8) (T := zT8) (N := 21) (ci := 8) (k := 9) rfl zl8 (by decide) (List.mem_of_getElem? (i := 891) (by decide +kernel)) (zd_dr dc_Mo_says 168 rfl))) ?_
  refine zm_ac (om_pk nt_lload (ok_lload (l := l) (B := B) (y := m_Mo_says) (pc := 317) (zd_dr dc_Mo_says 169 rfl))) ?_
  refine zm_ac (om_pk nt_ladd (ok_ladd (l := l) (B := B) (y := m_Mo_says) (pc := 319) (zd_dr dc_Mo_says 170 rfl))) ?_
  refine zm_ac (om_pk nt_goto (ok_goto (l := l) (B := B) (y := m_Mo_says) (pc := 320) (zd_dr dc_Mo_says 171 rfl) (by decide))) ?_
  refine zm_ac (om_pk nt_aload (ok_aload_n (l := l) (B := B) (y := m_Mo_says) (pc := 323) (k := 0) rfl (zd_dr dc_Mo_says 172 rfl))) ?_
  refine zm_ac (ok_mgetf rfl (ok_getf (l := l) (B := B) (y := m_Mo_says) (pc := 324) hG (C := zR8) (T := zT8) (N := 21) (ci := 8) (k := 9) rfl zl8 (by decide) (List.mem_of_getElem? (i := 891) (by decide +kernel)) (zd_dr dc_Mo_says 173 rfl))) ?_
  refine zm_ac (om_pk nt_lload (ok_lload (l := l) (B := B) (y := m_Mo_says) (pc := 327) (zd_dr dc_Mo_says 174 rfl))) ?_
  refine zm_ac (om_pk nt_lsub (ok_lsub (l := l) (B := B) (y := m_Mo_says) (pc := 329) (zd_dr dc_Mo_says 175 rfl))) ?_
  refine zm_ac (ok_mputl rfl (ok_putf (l := l) (B := B) (y := m_Mo_says) (pc := 330) hG (C := zR8) (T := zT8) (N := 21) (ci := 8) (k := 9) rfl zl8 zt8 (by decide) (List.mem_of_getElem? (i := 891) (by decide +kernel)) rfl (zd_dr dc_Mo_says 176 rfl))) ?_
  refine zm_ac (om_pk nt_iload (ok_iload_n (l := l) (B := B) (y := m_Mo_says) (pc := 333) (k := 1) rfl (zd_dr dc_Mo_says 177 rfl))) ?_
  refine zm_ac (om_pk nt_aload (ok_aload_n (l := l) (B := B) (y := m_Mo_says) (pc := 334) (k := 0) rfl (zd_dr dc_Mo_says 178 rfl))) ?_
  refine zm_ac (ok_mgetf rfl (ok_getf (l := l) (B := B) (y := m_Mo_says) (pc := 335) hG (C := zR8) (T := zT8) (N := 21) (ci := 8) (k := 2) rfl zl8 (by decide) (List.mem_of_getElem? (i := 884) (by decide +kernel)) (zd_dr dc_Mo_says 179 rfl))) ?_
  refine zm_ac (om_pk nt_icmp_ne (ok_icmp_ne (l := l) (B := B) (y := m_Mo_says) (pc := 338) (zd_dr dc_Mo_says 180 rfl) (by decide))) ?_
  refine zm_ac (om_pk nt_ci (ok_iconst (l := l) (B := B) (y := m_Mo_says) (pc := 341) (n := (1)) (zd_dr dc_Mo_says 181 rfl) rfl)) ?_
  refine zm_ac (om_pk nt_goto (ok_goto (l := l) (B := B) (y := m_Mo_says) (pc := 342) (zd_dr dc_Mo_says 182 rfl) (by decide))) ?_
  refine zm_ac (om_pk nt_ci (ok_iconst (l := l) (B := B) (y := m_Mo_says) (pc := 345) (n := (0)) (zd_dr dc_Mo_says 183 rfl) rfl)) ?_
  refine zm_ac (ok_mzret (ok_iret (l := l) (B := B) (y := m_Mo_says) (pc := 346) rfl (zd_dr dc_Mo_says 184 rfl))) ?_
  exact zm_an
def dl_Mo_read : List (Nat × Instr × Nat) := [(0, .aload_n 0, 1), (1, .iload_n 1, 1), (2, .invokestatic 113, 3), (5, .ifCond .eq (7), 3), (8, .iconst (1), 1), (9, .goto (15), 3), (12, .aload_n 0, 1), (13, .invokevirtual 116, 3), (16, .ifCond .ne (7), 3), (19, .iconst (2), 1), (20, .goto (4), 3), (23, .iconst (0), 1), (24, .putfield 41, 3), (27, .aload_n 0, 1), (28, .getfield 41, 3), (31, .ifCond .ne (32), 3), (34, .aload_n 0, 1), (35, .iconst (3), 1), (36, .putfield 66, 3), (39, .aload_n 0, 1), (40, .iload_n 1, 1), (41, .invokevirtual 89, 3), (44, .aload_n 0, 1), (45, .aload_n 0, 1), (46, .getfield 41, 3), (49, .ifCond .ne (7), 3), (52, .iconst (0), 1), (53, .goto (7), 3), (56, .aload_n 0, 1), (57, .getfield 99, 3), (60, .putfield 99, 3), (63, .return_, 1)]
theorem dc_Mo_read : ∀ q ∈ dl_Mo_read, decode (zd_yb m_Mo_read) q.1 = .ok q.2 := by decide +kernel
def cm_Mo_read (l : Launch) (B : zd_B) : List (Nat × zm_S) := [(0, om_p (oc_aload 0 1)), (1, om_p (oc_iload 1 2)), (2, om_calls l B gM m_Mo_no 1 5), (5, om_p (oc_if_eq 12 8)), (8, om_p (oc_ci (1) 9)), (9, om_p (oc_goto 24)), (12, om_p (oc_aload 0 13)), (13, om_callv l B gM m_Mo_says 0 16), (16, om_p (oc_if_ne 23 19)), (19, om_p (oc_ci (2) 20)), (20, om_p (oc_goto 24)), (23, om_p (oc_ci (0) 24)), (24, om_puti gM 0 27), (27, om_p (oc_aload 0 28)), (28, om_getf gM 0 31), (31, om_p (oc_if_ne 63 34)), (34, om_p (oc_aload 0 35)), (35, om_p (oc_ci (3) 36)), (36, om_puti gM 20 39), (39, om_p (oc_aload 0 40)), (40, om_p (oc_iload 1 41)), (41, om_callv l B gM m_Mo_store 1 44), (44, om_p (oc_aload 0 45)), (45, om_p (oc_aload 0 46)), (46, om_getf gM 0 49), (49, om_p (oc_if_ne 56 52)), (52, om_p (oc_ci (0) 53)), (53, om_p (oc_goto 60)), (56, om_p (oc_aload 0 57)), (57, om_getf gM 2 60), (60, om_puti gM 2 63), (63, om_vret)]
set_option maxRecDepth 20000 in
theorem okm_Mo_read {l : Launch} {B : zd_B} (hG : zd_G B) (hl : l.stackTraces = false) : ∀ q ∈ cm_Mo_read l B, zm_ok l B gM m_Mo_read q.1 q.2 := by
  unfold cm_Mo_read
  refine zm_ac (om_pk nt_aload (ok_aload_n (l := l) (B := B) (y := m_Mo_read) (pc := 0) (k := 0) rfl (zd_dr dc_Mo_read 0 rfl))) ?_
  refine zm_ac (om_pk nt_iload (ok_iload_n (l := l) (B := B) (y := m_Mo_read) (pc := 1) (k := 1) rfl (zd_dr dc_Mo_read 1 rfl))) ?_
  refine zm_ac (ok_mcalls (ok_calls (l := l) (B := B) (y := m_Mo_read) (pc := 2) hG cf_Mo_read_Mo_no rfl (List.mem_of_getElem? (i := 964) (by decide +kernel)) (List.mem_of_getElem? (i := 965) (by decide +kernel)) (List.mem_of_getElem? (i := 64) (by decide +kernel)) (zd_dr dc_Mo_read 2 rfl))) ?_
  refine zm_ac (om_pk nt_if_eq (ok_if_eq (l := l) (B := B) (y := m_Mo_read) (pc := 5) (zd_dr dc_Mo_read 3 rfl) (by decide))) ?_
  refine zm_ac (om_pk nt_ci (ok_iconst (l := l) (B := B) (y := m_Mo_read) (pc := 8) (n := (1)) (zd_dr dc_Mo_read 4 rfl) rfl)) ?_
  refine zm_ac (om_pk nt_goto (ok_goto (l := l) (B := B) (y := m_Mo_read) (pc := 9) (zd_dr dc_Mo_read 5 rfl) (by decide))) ?_
  refine zm_ac (om_pk nt_aload (ok_aload_n (l := l) (B := B) (y := m_Mo_read) (pc := 12) (k := 0) rfl (zd_dr dc_Mo_read 6 rfl))) ?_
  refine zm_ac (ok_mcallv rfl (ok_callv (l := l) (B := B) (y := m_Mo_read) (pc := 13) hG (ci := 8) rfl cf_Mo_read_Mo_says rfl (List.mem_of_getElem? (i := 967) (by decide +kernel)) (List.mem_of_getElem? (i := 969) (by decide +kernel)) (List.mem_of_getElem? (i := 27) (by decide +kernel)) (zd_dr dc_Mo_read 7 rfl))) ?_
  refine zm_ac (om_pk nt_if_ne (ok_if_ne (l := l) (B := B) (y := m_Mo_read) (pc := 16) (zd_dr dc_Mo_read 8 rfl) (by decide))) ?_
  refine zm_ac (om_pk nt_ci (ok_iconst (l := l) (B := B) (y := m_Mo_read) (pc := 19) (n := (2)) (zd_dr dc_Mo_read 9 rfl) rfl)) ?_
  refine zm_ac (om_pk nt_goto (ok_goto (l := l) (B := B) (y := m_Mo_read) (pc := 20) (zd_dr dc_Mo_read 10 rfl) (by decide))) ?_
  refine zm_ac (om_pk nt_ci (ok_iconst (l := l) (B := B) (y := m_Mo_read) (pc := 23) (n := (0)) (zd_dr dc_Mo_read 11 rfl) rfl)) ?_
  refine zm_ac (ok_mputi rfl (ok_putf (l := l) (B := B) (y := m_Mo_read) (pc := 24) hG (C := zR8) (T := zT8) (N := 21) (ci := 8) (k := 0) rfl zl8 zt8 (by decide) (List.mem_of_getElem? (i := 882) (by decide +kernel)) rfl (zd_dr dc_Mo_read 12 rfl))) ?_
  refine zm_ac (om_pk nt_aload (ok_aload_n (l := l) (B := B) (y := m_Mo_read) (pc := 27) (k := 0) rfl (zd_dr dc_Mo_read 13 rfl))) ?_
  refine zm_ac (ok_mgetf rfl (ok_getf (l := l) (B := B) (y := m_Mo_read) (pc := 28) hG (C := zR8) (T := zT8) (N := 21) (ci := 8) (k := 0) rfl zl8 (by decide) (List.mem_of_getElem? (i := 882) (by decide +kernel)) (zd_dr dc_Mo_read 14 rfl))) ?_
  refine zm_ac (om_pk nt_if_ne (ok_if_ne (l := l) (B := B) (y := m_Mo_read) (pc := 31) (zd_dr dc_Mo_read 15 rfl) (by decide))) ?_
  refine zm_ac (om_pk nt_aload (ok_aload_n (l := l) (B := B) (y := m_Mo_read) (pc := 34) (k := 0) rfl (zd_dr dc_Mo_read 16 rfl))) ?_
  refine zm_ac (om_pk nt_ci (ok_iconst (l := l) (B := B) (y := m_Mo_read) (pc := 35) (n := (3)) (zd_dr dc_Mo_read 17 rfl) rfl)) ?_
  refine zm_ac (ok_mputi rfl (ok_putf (l := l) (B := B) (y := m_Mo_read) (pc := 36) hG (C := zR8) (T := zT8) (N := 21) (ci := 8) (k := 20) rfl zl8 zt8 (by decide) (List.mem_of_getElem? (i := 902) (by decide +kernel)) rfl (zd_dr dc_Mo_read 18 rfl))) ?_
  refine zm_ac (om_pk nt_aload (ok_aload_n (l := l) (B := B) (y := m_Mo_read) (pc := 39) (k := 0) rfl (zd_dr dc_Mo_read 19 rfl))) ?_
  refine zm_ac (om_pk nt_iload (ok_iload_n (l := l) (B := B) (y := m_Mo_read) (pc := 40) (k := 1) rfl (zd_dr dc_Mo_read 20 rfl))) ?_
  refine zm_ac (ok_mcallv rfl (ok_callv (l := l) (B := B) (y := m_Mo_read) (pc := 41) hG (ci := 8) rfl cf_Mo_read_Mo_store rfl (List.mem_of_getElem? (i := 980) (by decide +kernel)) (List.mem_of_getElem? (i := 982) (by decide +kernel)) (List.mem_of_getElem? (i := 29) (by decide +kernel)) (zd_dr dc_Mo_read 21 rfl))) ?_
  refine zm_ac (om_pk nt_aload (ok_aload_n (l := l) (B := B) (y := m_Mo_read) (pc := 44) (k := 0) rfl (zd_dr dc_Mo_read 22 rfl))) ?_
  refine zm_ac (om_pk nt_aload (ok_aload_n (l := l) (B := B) (y := m_Mo_read) (pc := 45) (k := 0) rfl (zd_dr dc_Mo_read 23 rfl))) ?_
  refine zm_ac (ok_mgetf rfl (ok_getf (l := l) (B := B) (y := m_Mo_read) (pc := 46) hG (C := zR8) (T := zT8) (N := 21) (ci := 8) (k := 0) rfl zl8 (by decide) (List.mem_of_getElem? (i := 882) (by decide +kernel)) (zd_dr dc_Mo_read 24 rfl))) ?_
  refine zm_ac (om_pk nt_if_ne (ok_if_ne (l := l) (B := B) (y := m_Mo_read) (pc := 49) (zd_dr dc_Mo_read 25 rfl) (by decide))) ?_
  refine zm_ac (om_pk nt_ci (ok_iconst (l := l) (B := B) (y := m_Mo_read) (pc := 52) (n := (0)) (zd_dr dc_Mo_read 26 rfl) rfl)) ?_
  refine zm_ac (om_pk nt_goto (ok_goto (l := l) (B := B) (y := m_Mo_read) (pc := 53) (zd_dr dc_Mo_read 27 rfl) (by decide))) ?_
  refine zm_ac (om_pk nt_aload (ok_aload_n (l := l) (B := B) (y := m_Mo_read) (pc := 56) (k := 0) rfl (zd_dr dc_Mo_read 28 rfl))) ?_
  refine zm_ac (ok_mgetf rfl (ok_getf (l := l) (B := B) (y := m_Mo_read) (pc := 57) hG (C := zR8) (T := zT8) (N := 21) (ci := 8) (k := 2) rfl zl8 (by decide) (List.mem_of_getElem? (i := 884) (by decide +kernel)) (zd_dr dc_Mo_read 29 rfl))) ?_
  refine zm_ac (ok_mputi rfl (ok_putf (l := l) (B := B) (y := m_Mo_read) (pc := 60) hG (C := zR8) (T := zT8) (N := 21) (ci := 8) (k := 2) rfl zl8 zt8 (by decide) (List.mem_of_getElem? (i := 884) (by decide +kernel)) rfl (zd_dr dc_Mo_read 30 rfl))) ?_
  refine zm_ac (ok_mvret (ok_vret (l := l) (B := B) (y := m_Mo_read) (pc := 63) rfl (zd_dr dc_Mo_read 31 rfl))) ?_
  exact zm_an
def dl_Mo_put : List (Nat × Instr × Nat) := [(0, .aload_n 0, 1), (1, .iload_n 1, 1), (2, .invokestatic 113, 3), (5, .ifCond .eq (7), 3), (8, .iconst (1), 1), (9, .goto (4), 3), (12, .iconst (0), 1), (13, .putfield 41, 3), (16, .aload_n 0, 1), (17, .getfield 41, 3), (20, .ifCond .le (4), 3), (23, .return_, 1), (24, .aload_n 0, 1), (25, .iconst (2), 1), (26, .putfield 66, 3), (29, .aload_n 0, 1), (30, .lload_n 2, 1), (31, .lconst 0, 1), (32, .lcmp, 1), (33, .ifCond .ge (7), 3), (36, .iconst (1), 1), (37, .goto (4), 3), (40, .iconst (0), 1), (41, .putfield 56, 3), (44, .aload_n 0, 1), (45, .iconst (0), 1), (46, .putfield 52, 3), (49, .aload_n 0, 1), (50, .iload 4, 2), (52, .i2l, 1), (53, .putfield 48, 3), (56, .aload_n 0, 1), (57, .bipush (19), 2), (59, .putfield 45, 3), (62, .lload_n 2, 1), (63, .lstore 5, 2), (65, .bipush (18), 2), (67, .istore 7, 2), (69, .iload 7, 2), (71, .ifCond .lt (48), 3), (74, .lload 5, 2), (76, .ldc2_w 109, 3), (79, .lrem, 1), (80, .lstore 8, 2), (82, .aload_n 0, 1), (83, .getfield 26, 3), (86, .iload 7, 2), (88, .lload 8, 2), (90, .lconst 0, 1), (91, .lcmp, 1), (92, .ifCond .ge (9), 3), (95, .lload 8, 2), (97, .lneg, 1), (98, .goto (5), 3), (101, .lload 8, 2), (103, .l2i, 1), (104, .iastore, 1), (105, .lload 5, 2), (107, .ldc2_w 109, 3), (110, .ldiv, 1), (111, .lstore 5, 2), (113, .iinc 7 (-1), 3), (116, .goto (-47), 3), (119, .aload_n 0, 1), (120, .iload_n 1, 1), (121, .invokevirtual 89, 3), (124, .return_, 1)]
theorem dc_Mo_put : ∀ q ∈ dl_Mo_put, decode (zd_yb m_Mo_put) q.1 = .ok q.2 := by decide +kernel
def cm_Mo_put (l : Launch) (B : zd_B) : List (Nat × zm_S) := [(0, om_p (oc_aload 0 1)), (1, om_p (oc_iload 1 2)), (2, om_calls l B gM m_Mo_no 1 5), (5, om_p (oc_if_eq 12 8)), (8, om_p (oc_ci (1) 9)), (9, om_p (oc_goto 13)), (12, om_p (oc_ci (0) 13)), (13, om_puti gM 0 16), (16, om_p (oc_aload 0 17)), (17, om_getf gM 0 20), (20, om_p (oc_if_le 24 23)), (23, om_vret), (24, om_p (oc_aload 0 25)), (25, om_p (oc_ci (2) 26)), (26, om_puti gM 20 29), (29, om_p (oc_aload 0 30)), (30, om_p (oc_lload 2 31)), (31, om_p (oc_cl 0 32)), (32, om_p (oc_lcmp 33)), (33, om_p (oc_if_ge 40 36)), (36, om_p (oc_ci (1) 37)), (37, om_p (oc_goto 41)), (40, om_p (oc_ci (0) 41)), (41, om_putb gM 11 44), (44, om_p (oc_aload 0 45)), (45, om_p (oc_ci (0) 46)), (46, om_putb gM 10 49), (49, om_p (oc_aload 0 50)), (50, om_p (oc_iload 4 52)), (52, om_p (oc_i2l 53)), (53, om_putl gM 9 56), (56, om_p (oc_aload 0 57)), (57, om_p (oc_ci (19) 59)), (59, om_puti gM 8 62), (62, om_p (oc_lload 2 63)), (63, om_p (oc_lstore 5 65)), (65, om_p (oc_ci (18) 67)), (67, om_p (oc_istore 7 69)), (69, om_p (oc_iload 7 71)), (71, om_p (oc_if_lt 119 74)), (74, om_p (oc_lload 5 76)), (76, om_p (oc_cl (10) 79)), (79, om_p (oc_lrem 80)), (80, om_p (oc_lstore 8 82)), (82, om_p (oc_aload 0 83)), (83, om_getf gM 7 86), (86, om_p (oc_iload 7 88)), (88, om_p (oc_lload 8 90)), (90, om_p (oc_cl 0 91)), (91, om_p (oc_lcmp 92)), (92, om_p (oc_if_ge 101 95)), (95, om_p (oc_lload 8 97)), (97, om_p (oc_lneg 98)), (98, om_p (oc_goto 103)), (101, om_p (oc_lload 8 103)), (103, om_p (oc_l2i 104)), (104, om_ast gM 0 cs_i 105), (105, om_p (oc_lload 5 107)), (107, om_p (oc_cl (10) 110)), (110, om_p (oc_ldiv 111)), (111, om_p (oc_lstore 5 113)), (113, om_p (oc_iinc 7 (-1) 116)), (116, om_p (oc_goto 69)), (119, om_p (oc_aload 0 120)), (120, om_p (oc_iload 1 121)), (121, om_callv l B gM m_Mo_store 1 124), (124, om_vret)]
set_option maxRecDepth 20000 in
theorem okm_Mo_put {l : Launch} {B : zd_B} (hG : zd_G B) (hl : l.stackTraces = false) : ∀ q ∈ cm_Mo_put l B, zm_ok l B gM m_Mo_put q.1 q.2 := by
  unfold cm_Mo_put
  refine zm_ac (om_pk nt_aload (ok_aload_n (l := l) (B := B) (y := m_Mo_put) (pc := 0) (k := 0) rfl (zd_dr dc_Mo_put 0 rfl))) ?_
  refine zm_ac (om_pk nt_iload (ok_iload_n (l := l) (B := B) (y := m_Mo_put) (pc := 1) (k := 1) rfl (zd_dr dc_Mo_put 1 rfl))) ?_
  refine zm_ac (ok_mcalls (ok_calls (l := l) (B := B) (y := m_Mo_put) (pc := 2) hG cf_Mo_put_Mo_no rfl (List.mem_of_getElem? (i := 964) (by decide +kernel)) (List.mem_of_getElem? (i := 965) (by decide +kernel)) (List.mem_of_getElem? (i := 64) (by decide +kernel)) (zd_dr dc_Mo_put 2 rfl))) ?_
  refine zm_ac (om_pk nt_if_eq (ok_if_eq (l := l) (B := B) (y := m_Mo_put) (pc := 5) (zd_dr dc_Mo_put 3 rfl) (by decide))) ?_
  refine zm_ac (om_pk nt_ci (ok_iconst (l := l) (B := B) (y := m_Mo_put) (pc := 8) (n := (1)) (zd_dr dc_Mo_put 4 rfl) rfl)) ?_
  refine zm_ac (om_pk nt_goto (ok_goto (l := l) (B := B) (y := m_Mo_put) (pc := 9) (zd_dr dc_Mo_put 5 rfl) (by decide))) ?_
  refine zm_ac (om_pk nt_ci (ok_iconst (l := l) (B := B) (y := m_Mo_put) (pc := 12) (n := (0)) (zd_dr dc_Mo_put 6 rfl) rfl)) ?_
  refine zm_ac (ok_mputi rfl (ok_putf (l := l) (B := B) (y := m_Mo_put) (pc := 13) hG (C := zR8) (T := zT8) (N := 21) (ci := 8) (k := 0) rfl zl8 zt8 (by decide) (List.mem_of_getElem? (i := 882) (by decide +kernel)) rfl (zd_dr dc_Mo_put 7 rfl))) ?_
  refine zm_ac (om_pk nt_aload (ok_aload_n (l := l) (B := B) (y := m_Mo_put) (pc := 16) (k := 0) rfl (zd_dr dc_Mo_put 8 rfl))) ?_
  refine zm_ac (ok_mgetf rfl (ok_getf (l := l) (B := B) (y := m_Mo_put) (pc := 17) hG (C := zR8) (T := zT8) (N := 21) (ci := 8) (k := 0) rfl zl8 (by decide) (List.mem_of_getElem? (i := 882) (by decide +kernel)) (zd_dr dc_Mo_put 9 rfl))) ?_
  refine zm_ac (om_pk nt_if_le (ok_if_le (l := l) (B := B) (y := m_Mo_put) (pc := 20) (zd_dr dc_Mo_put 10 rfl) (by decide))) ?_
  refine zm_ac (ok_mvret (ok_vret (l := l) (B := B) (y := m_Mo_put) (pc := 23) rfl (zd_dr dc_Mo_put 11 rfl))) ?_
  refine zm_ac (om_pk nt_aload (ok_aload_n (l := l) (B := B) (y := m_Mo_put) (pc := 24) (k := 0) rfl (zd_dr dc_Mo_put 12 rfl))) ?_
  refine zm_ac (om_pk nt_ci (ok_iconst (l := l) (B := B) (y := m_Mo_put) (pc := 25) (n := (2)) (zd_dr dc_Mo_put 13 rfl) rfl)) ?_
  refine zm_ac (ok_mputi rfl (ok_putf (l := l) (B := B) (y := m_Mo_put) (pc := 26) hG (C := zR8) (T := zT8) (N := 21) (ci := 8) (k := 20) rfl zl8 zt8 (by decide) (List.mem_of_getElem? (i := 902) (by decide +kernel)) rfl (zd_dr dc_Mo_put 14 rfl))) ?_
  refine zm_ac (om_pk nt_aload (ok_aload_n (l := l) (B := B) (y := m_Mo_put) (pc := 29) (k := 0) rfl (zd_dr dc_Mo_put 15 rfl))) ?_
  refine zm_ac (om_pk nt_lload (ok_lload_n (l := l) (B := B) (y := m_Mo_put) (pc := 30) (k := 2) rfl (zd_dr dc_Mo_put 16 rfl))) ?_
  refine zm_ac (om_pk nt_cl (ok_lconst (l := l) (B := B) (y := m_Mo_put) (pc := 31) (n := 0) (zd_dr dc_Mo_put 17 rfl) rfl)) ?_
  refine zm_ac (om_pk nt_lcmp (ok_lcmp (l := l) (B := B) (y := m_Mo_put) (pc := 32) (zd_dr dc_Mo_put 18 rfl))) ?_
  refine zm_ac (om_pk nt_if_ge (ok_if_ge (l := l) (B := B) (y := m_Mo_put) (pc := 33) (zd_dr dc_Mo_put 19 rfl) (by decide))) ?_
  refine zm_ac (om_pk nt_ci (ok_iconst (l := l) (B := B) (y := m_Mo_put) (pc := 36) (n := (1)) (zd_dr dc_Mo_put 20 rfl) rfl)) ?_
  refine zm_ac (om_pk nt_goto (ok_goto (l := l) (B := B) (y := m_Mo_put) (pc := 37) (zd_dr dc_Mo_put 21 rfl) (by decide))) ?_
  refine zm_ac (om_pk nt_ci (ok_iconst (l := l) (B := B) (y := m_Mo_put) (pc := 40) (n := (0)) (zd_dr dc_Mo_put 22 rfl) rfl)) ?_
  refine zm_ac (ok_mputb rfl (ok_putf (l := l) (B := B) (y := m_Mo_put) (pc := 41) hG (C := zR8) (T := zT8) (N := 21) (ci := 8) (k := 11) rfl zl8 zt8 (by decide) (List.mem_of_getElem? (i := 893) (by decide +kernel)) rfl (zd_dr dc_Mo_put 23 rfl))) ?_
  refine zm_ac (om_pk nt_aload (ok_aload_n (l := l) (B := B) (y := m_Mo_put) (pc := 44) (k := 0) rfl (zd_dr dc_Mo_put 24 rfl))) ?_
  refine zm_ac (om_pk nt_ci (ok_iconst (l := l) (B := B) (y := m_Mo_put) (pc := 45) (n := (0)) (zd_dr dc_Mo_put 25 rfl) rfl)) ?_
  refine zm_ac (ok_mputb rfl (ok_putf (l := l) (B := B) (y := m_Mo_put) (pc := 46) hG (C := zR8) (T := zT8) (N := 21) (ci := 8) (k := 10) rfl zl8 zt8 (by decide) (List.mem_of_getElem? (i := 892) (by decide +kernel)) rfl (zd_dr dc_Mo_put 26 rfl))) ?_
  refine zm_ac (om_pk nt_aload (ok_aload_n (l := l) (B := B) (y := m_Mo_put) (pc := 49) (k := 0) rfl (zd_dr dc_Mo_put 27 rfl))) ?_
  refine zm_ac (om_pk nt_iload (ok_iload (l := l) (B := B) (y := m_Mo_put) (pc := 50) (zd_dr dc_Mo_put 28 rfl))) ?_
  refine zm_ac (om_pk nt_i2l (ok_i2l (l := l) (B := B) (y := m_Mo_put) (pc := 52) (zd_dr dc_Mo_put 29 rfl))) ?_
  refine zm_ac (ok_mputl rfl (ok_putf (l := l) (B := B) (y := m_Mo_put) (pc := 53) hG (C := zR8) (T := zT8) (N := 21) (ci := 8) (k := 9) rfl zl8 zt8 (by decide) (List.mem_of_getElem? (i := 891) (by decide +kernel)) rfl (zd_dr dc_Mo_put 30 rfl))) ?_
  refine zm_ac (om_pk nt_aload (ok_aload_n (l := l) (B := B) (y := m_Mo_put) (pc := 56) (k := 0) rfl (zd_dr dc_Mo_put 31 rfl))) ?_
  refine zm_ac (om_pk nt_ci (ok_bipush (l := l) (B := B) (y := m_Mo_put) (pc := 57) (n := (19)) (zd_dr dc_Mo_put 32 rfl) rfl)) ?_
  refine zm_ac (ok_mputi rfl (ok_putf (l := l) (B := B) (y := m_Mo_put) (pc := 59) hG (C := zR8) (T := zT8) (N := 21) (ci := 8) (k := 8) rfl zl8 zt8 (by decide) (List.mem_of_getElem? (i := 890) (by decide +kernel)) rfl (zd_dr dc_Mo_put 33 rfl))) ?_
  refine zm_ac (om_pk nt_lload (ok_lload_n (l := l) (B := B) (y := m_Mo_put) (pc := 62) (k := 2) rfl (zd_dr dc_Mo_put 34 rfl))) ?_
  refine zm_ac (om_pk nt_lstore (ok_lstore (l := l) (B := B) (y := m_Mo_put) (pc := 63) (zd_dr dc_Mo_put 35 rfl) (by decide))) ?_
  refine zm_ac (om_pk nt_ci (ok_bipush (l := l) (B := B) (y := m_Mo_put) (pc := 65) (n := (18)) (zd_dr dc_Mo_put 36 rfl) rfl)) ?_
  refine zm_ac (om_pk nt_istore (ok_istore (l := l) (B := B) (y := m_Mo_put) (pc := 67) (zd_dr dc_Mo_put 37 rfl) (by decide))) ?_
  refine zm_ac (om_pk nt_iload (ok_iload (l := l) (B := B) (y := m_Mo_put) (pc := 69) (zd_dr dc_Mo_put 38 rfl))) ?_
  refine zm_ac (om_pk nt_if_lt (ok_if_lt (l := l) (B := B) (y := m_Mo_put) (pc := 71) (zd_dr dc_Mo_put 39 rfl) (by decide))) ?_
  refine zm_ac (om_pk nt_lload (ok_lload (l := l) (B := B) (y := m_Mo_put) (pc := 74) (zd_dr dc_Mo_put 40 rfl))) ?_
  refine zm_ac (om_pk nt_cl (ok_ldc2 (l := l) (B := B) (y := m_Mo_put) (pc := 76) hG (List.mem_of_getElem? (i := 978) (by decide +kernel)) (zd_dr dc_Mo_put 41 rfl))) ?_
  refine zm_ac (om_pk nt_lrem (ok_lrem (l := l) (B := B) (y := m_Mo_put) (pc := 79) (zd_dr dc_Mo_put 42 rfl))) ?_
  refine zm_ac (om_pk nt_lstore (ok_lstore (l := l) (B := B) (y := m_Mo_put) (pc := 80) (zd_dr dc_Mo_put 43 rfl) (by decide))) ?_
  refine zm_ac (om_pk nt_aload (ok_aload_n (l := l) (B := B) (y := m_Mo_put) (pc := 82) (k := 0) rfl (zd_dr dc_Mo_put 44 rfl))) ?_
  refine zm_ac (ok_mgetf rfl (ok_getf (l := l) (B := B) (y := m_Mo_put) (pc := 83) hG (C := zR8) (T := zT8) (N := 21) (ci := 8) (k := 7) rfl zl8 (by decide) (List.mem_of_getElem? (i := 889) (by decide +kernel)) (zd_dr dc_Mo_put 45 rfl))) ?_
  refine zm_ac (om_pk nt_iload (ok_iload (l := l) (B := B) (y := m_Mo_put) (pc := 86) (zd_dr dc_Mo_put 46 rfl))) ?_
  refine zm_ac (om_pk nt_lload (ok_lload (l := l) (B := B) (y := m_Mo_put) (pc := 88) (zd_dr dc_Mo_put 47 rfl))) ?_
  refine zm_ac (om_pk nt_cl (ok_lconst (l := l) (B := B) (y := m_Mo_put) (pc := 90) (n := 0) (zd_dr dc_Mo_put 48 rfl) rfl)) ?_
  refine zm_ac (om_pk nt_lcmp (ok_lcmp (l := l) (B := B) (y := m_Mo_put) (pc := 91) (zd_dr dc_Mo_put 49 rfl))) ?_
  refine zm_ac (om_pk nt_if_ge (ok_if_ge (l := l) (B := B) (y := m_Mo_put) (pc := 92) (zd_dr dc_Mo_put 50 rfl) (by decide))) ?_
  refine zm_ac (om_pk nt_lload (ok_lload (l := l) (B := B) (y := m_Mo_put) (pc := 95) (zd_dr dc_Mo_put 51 rfl))) ?_
  refine zm_ac (om_pk nt_lneg (ok_lneg (l := l) (B := B) (y := m_Mo_put) (pc := 97) (zd_dr dc_Mo_put 52 rfl))) ?_
  refine zm_ac (om_pk nt_goto (ok_goto (l := l) (B := B) (y := m_Mo_put) (pc := 98) (zd_dr dc_Mo_put 53 rfl) (by decide))) ?_
  refine zm_ac (om_pk nt_lload (ok_lload (l := l) (B := B) (y := m_Mo_put) (pc := 101) (zd_dr dc_Mo_put 54 rfl))) ?_
  refine zm_ac (om_pk nt_l2i (ok_l2i (l := l) (B := B) (y := m_Mo_put) (pc := 103) (zd_dr dc_Mo_put 55 rfl))) ?_
  refine zm_ac (ok_miastore (ok_iastore (l := l) (B := B) (y := m_Mo_put) (pc := 104) hG (zd_dr dc_Mo_put 56 rfl))) ?_
  refine zm_ac (om_pk nt_lload (ok_lload (l := l) (B := B) (y := m_Mo_put) (pc := 105) (zd_dr dc_Mo_put 57 rfl))) ?_
  refine zm_ac (om_pk nt_cl (ok_ldc2 (l := l) (B := B) (y := m_Mo_put) (pc := 107) hG (List.mem_of_getElem? (i := 978) (by decide +kernel)) (zd_dr dc_Mo_put 58 rfl))) ?_
  refine zm_ac (om_pk nt_ldiv (ok_ldiv (l := l) (B := B) (y := m_Mo_put) (pc := 110) (zd_dr dc_Mo_put 59 rfl))) ?_
  refine zm_ac (om_pk nt_lstore (ok_lstore (l := l) (B := B) (y := m_Mo_put) (pc := 111) (zd_dr dc_Mo_put 60 rfl) (by decide))) ?_
  refine zm_ac (om_pk nt_iinc (ok_iinc (l := l) (B := B) (y := m_Mo_put) (pc := 113) (zd_dr dc_Mo_put 61 rfl) (by decide) rfl)) ?_
  refine zm_ac (om_pk nt_goto (ok_goto (l := l) (B := B) (y := m_Mo_put) (pc := 116) (zd_dr dc_Mo_put 62 rfl) (by decide))) ?_
  refine zm_ac (om_pk nt_aload (ok_aload_n (l := l) (B := B) (y := m_Mo_put) (pc := 119) (k := 0) rfl (zd_dr dc_Mo_put 63 rfl))) ?_
  refine zm_ac (om_pk nt_iload (ok_iload_n (l := l) (B := B) (y := m_Mo_put) (pc := 120) (k := 1) rfl (zd_dr dc_Mo_put 64 rfl))) ?_
  refine zm_ac (ok_mcallv rfl (ok_callv (l := l) (B := B) (y := m_Mo_put) (pc := 121) hG (ci := 8) rfl cf_Mo_put_Mo_store rfl (List.mem_of_getElem? (i := 980) (by decide +kernel)) (List.mem_of_getElem? (i := 982) (by decide +kernel)) (List.mem_of_getElem? (i := 29) (by decide +kernel)) (zd_dr dc_Mo_put 65 rfl))) ?_
  refine zm_ac (ok_mvret (ok_vret (l := l) (B := B) (y := m_Mo_put) (pc := 124) rfl (zd_dr dc_Mo_put 66 rfl))) ?_
  exact zm_an
def dl_Mo_compareSizes : List (Nat × Instr × Nat) := [(0, .aload_n 0, 1), (1, .getfield 16, 3), (4, .iload_n 1, 1), (5, .iaload, 1), (6, .i2l, 1), (7, .aload_n 0, 1), (8, .getfield 23, 3), (11, .iload_n 1, 1), (12, .iaload, 1), (13, .i2l, 1), (14, .lsub, 1), (15, .lstore_n 3, 1), (16, .aload_n 0, 1), (17, .getfield 16, 3), (20, .iload_n 2, 1), (21, .iaload, 1), (22, .i2l, 1), (23, .aload_n 0, 1), (24, .getfield 23, 3), (27, .iload_n 2, 1), (28, .iaload, 1), (29, .i2l, 1), (30, .lsub, 1), (31, .lstore 5, 2), (33, .lload_n 3, 1), (34, .lload 5, 2), (36, .lcmp, 1), (37, .ifCond .eq (16), 3), (40, .lload_n 3, 1), (41, .lload 5, 2), (43, .lcmp, 1), (44, .ifCond .ge (7), 3), (47, .iconst (-1), 1), (48, .goto (4), 3), (51, .iconst (1), 1), (52, .ireturn, 1), (53, .iconst (0), 1), (54, .istore 7, 2), (56, .iload 7, 2), (58, .aload_n 0, 1), (59, .getfield 16, 3), (62, .iload_n 1, 1), (63, .iaload, 1), (64, .if_icmp .lt (14), 3), (67, .iload 7, 2), (69, .aload_n 0, 1), (70, .getfield 16, 3), (73, .iload_n 2, 1), (74, .iaload, 1), (75, .if_icmp .ge (89), 3), (78, .iload 7, 2), (80, .aload_n 0, 1), (81, .getfield 16, 3), (84, .iload_n 1, 1), (85, .iaload, 1), (86, .if_icmp .ge (19), 3), (89, .aload_n 0, 1), (90, .getfield 13, 3), (93, .sipush (1000), 3), (96, .iload_n 1, 1), (97, .imul, 1), (98, .iload 7, 2), (100, .iadd, 1), (101, .iaload, 1), (102, .goto (4), 3), (105, .iconst (0), 1), (106, .istore 8, 2), (108, .iload 7, 2), (110, .aload_n 0, 1), (111, .getfield 16, 3), (114, .iload_n 2, 1), (115, .iaload, 1), (116, .if_icmp .ge (19), 3), (119, .aload_n 0, 1), (120, .getfield 13, 3), (123, .sipush (1000), 3), (126, .iload_n 2, 1), (127, .imul, 1), (128, .iload 7, 2), (130, .iadd, 1), (131, .iaload, 1), (132, .goto (4), 3), (135, .iconst (0), 1), (136, .istore 9, 2), (138, .iload 8, 2), (140, .iload 9, 2), (142, .if_icmp .eq (16), 3), (145, .iload 8, 2), (147, .iload 9, 2), (149, .if_icmp .ge (7), 3), (152, .iconst (-1), 1), (153, .goto (4), 3), (156, .iconst (1), 1), (157, .ireturn, 1), (158, .iinc 7 (1), 3), (161, .goto (-105), 3), (164, .iconst (0), 1), (165, .ireturn, 1)]
theorem dc_Mo_compareSizes : ∀ q ∈ dl_Mo_compareSizes, decode (zd_yb m_Mo_compareSizes) q.1 = .ok q.2 := by decide +kernel
def cm_Mo_compareSizes (l : Launch) (B : zd_B) : List (Nat × zm_S) := [(0, om_p (oc_aload 0 1)), (1, om_getf gM 4 4), (4, om_p (oc_iload 1 5)), (5, om_ald gM 0 6), (6, om_p (oc_i2l 7)), (7, om_p (oc_aload 0 8)), (8, om_getf gM 6 11), (11, om_p (oc_iload 1 12)), (12, om_ald gM 0 13), (13, om_p (oc_i2l 14)), (14, om_p (oc_lsub 15)), (15, om_p (oc_lstore 3 16)), (16, om_p (oc_aload 0 17)), (17, om_getf gM 4 20), (20, om_p (oc_iload 2 21)), (21, om_ald gM 0 22), (22, om_p (oc_i2l 23)), (23, om_p (oc_aload 0 24)), (24, om_getf gM 6 27), (27, om_p (oc_iload 2 28)), (28, om_ald gM 0 29), (29, om_p (oc_i2l 30)), (30, om_p (oc_lsub 31)), (31, om_p (oc_lstore 5 33)), (33, om_p (oc_lload 3 34)), (34, om_p (oc_lload 5 36)), (36, om_p (oc_lcmp 37)), (37, om_p (oc_if_eq 53 40)), (40, om_p (oc_lload 3 41)), (41, om_p (oc_lload 5 43)), (43, om_p (oc_lcmp 44)), (44, om_p (oc_if_ge 51 47)), (47, om_p (oc_ci (-1) 48)), (48, om_p (oc_goto 52)), (51, om_p (oc_ci (1) 52)), (52, om_iret), (53, om_p (oc_ci (0) 54)), (54, om_p (oc_istore 7 56)), (56, om_p (oc_iload 7 58)), (58, om_p (oc_aload 0 59)), (59, om_getf gM 4 62), (62, om_p (oc_iload 1 63)), (63, om_ald gM 0 64), (64, om_p (oc_icmp_lt 78 67)), (67, om_p (oc_iload 7 69)), (69, om_p (oc_aload 0 70)), (70, om_getf gM 4 73), (73, om_p (oc_iload 2 74)), (74, om_ald gM 0 75), (75, om_p (oc_icmp_ge 164 78)), (78, om_p (oc_iload 7 80)), (80, om_p (oc_aload 0 81)), (81, om_getf gM 4 84), (84, om_p (oc_iload 1 85)), (85, om_ald gM 0 86), (86, om_p (oc_icmp_ge 105 89)), (89, om_p (oc_aload 0 90)), (90, om_getf gM 3 93), (93, om_p (oc_ci (1000) 96)), (96, om_p (oc_iload 1 97)), (97, om_p (oc_imul 98)), (98, om_p (oc_iload 7 100)), (100, om_p (oc_iadd 101)), (101, om_ald gM 0 102), (102, om_p (oc_goto 106)), (105, om_p (oc_ci (0) 106)), (106, om_p (oc_istore 8 108)), (108, om_p (oc_iload 7 110)), (110, om_p (oc_aload 0 111)), (111, om_getf gM 4 114), (114, om_p (oc_iload 2 115)), (115, om_ald gM 0 116), (116, om_p (oc_icmp_ge 135 119)), (119, om_p (oc_aload 0 120)), (120, om_getf gM 3 123), (123, om_p (oc_ci (1000) 126)), (126, om_p (oc_iload 2 127)), (127, om_p (oc_imul 128)), (128, om_p (oc_iload 7 130)), (130, om_p (oc_iadd 131)), (131, om_ald gM 0 132), (132, om_p (oc_goto 136)), (135, om_p (oc_ci (0) 136)), (136, om_p (oc_istore 9 138)), (138, om_p (oc_iload 8 140)), (140, om_p (oc_iload 9 142)), (142, om_p (oc_icmp_eq 158 145)), (145, om_p (oc_iload 8 147)), (147, om_p (oc_iload 9 149)), (149, om_p (oc_icmp_ge 156 152)), (152, om_p (oc_ci (-1) 153)), (153, om_p (oc_goto 157)), (156, om_p (oc_ci (1) 157)), (157, om_iret), (158, om_p (oc_iinc 7 (1) 161)), (161, om_p (oc_goto 56)), (164, om_p (oc_ci (0) 165)), (165, om_iret)]
set_option maxRecDepth 20000 in
theorem okm_Mo_compareSizes {l : Launch} {B : zd_B} (hG : zd_G B) (hl : l.stackTraces = false) : ∀ q ∈ cm_Mo_compareSizes l B, zm_ok l B gM m_Mo_compareSizes q.1 q.2 := by
  unfold cm_Mo_compareSizes
  refine zm_ac (om_pk nt_aload (ok_aload_n (l := l) (B := B) (y := m_Mo_compareSizes) (pc := 0) (k := 0) rfl (zd_dr dc_Mo_compareSizes 0 rfl))) ?_
  refine zm_ac (ok_mgetf rfl (ok_getf (l := l) (B := B) (y := m_Mo_compareSizes) (pc := 1) hG (C := zR8) (T := zT8) (N := 21) (ci := 8) (k := 4) rfl zl8 (by decide) (List.mem_of_getElem? (i := 886) (by decide +kernel)) (zd_dr dc_Mo_compareSizes 1 rfl))) ?_
  refine zm_ac (om_pk nt_iload (ok_iload_n (l := l) (B := B) (y := m_Mo_compareSizes) (pc := 4) (k := 1) rfl (zd_dr dc_Mo_compareSizes 2 rfl))) ?_
  refine zm_ac (ok_miaload (ok_iaload (l := l) (B := B) (y := m_Mo_compareSizes) (pc := 5) hG (zd_dr dc_Mo_compareSizes 3 rfl))) ?_
  refine zm_ac (om_pk nt_i2l (ok_i2l (l := l) (B := B) (y := m_Mo_compareSizes) (pc := 6) (zd_dr dc_Mo_compareSizes 4 rfl))) ?_
  refine zm_ac (om_pk nt_aload (ok_aload_n (l := l) (B := B) (y := m_Mo_compareSizes) (pc := 7) (k := 0) rfl (zd_dr dc_Mo_compareSizes 5 rfl))) ?_
  refine zm_ac (ok_mgetf rfl (ok_getf (l := l) (B := B) (y := m_Mo_compareSizes) (pc := 8) hG (C := zR8) (T := zT8) (N := 21) (ci := 8) (k := 6) rfl zl8 (by decide) (List.mem_of_getElem? (i := 888) (by decide +kernel)) (zd_dr dc_Mo_compareSizes 6 rfl))) ?_
  refine zm_ac (om_pk nt_iload (ok_iload_n (l := l) (B := B) (y := m_Mo_compareSizes) (pc := 11) (k := 1) rfl (zd_dr dc_Mo_compareSizes 7 rfl))) ?_
  refine zm_ac (ok_miaload (ok_iaload (l := l) (B := B) (y := m_Mo_compareSizes) (pc := 12) hG (zd_dr dc_Mo_compareSizes 8 rfl))) ?_
  refine zm_ac (om_pk nt_i2l (ok_i2l (l := l) (B := B) (y := m_Mo_compareSizes) (pc := 13) (zd_dr dc_Mo_compareSizes 9 rfl))) ?_
  refine zm_ac (om_pk nt_lsub (ok_lsub (l := l) (B := B) (y := m_Mo_compareSizes) (pc := 14) (zd_dr dc_Mo_compareSizes 10 rfl))) ?_
  refine zm_ac (om_pk nt_lstore (ok_lstore_n (l := l) (B := B) (y := m_Mo_compareSizes) (pc := 15) (k := 3) rfl (zd_dr dc_Mo_compareSizes 11 rfl) (by decide))) ?_
  refine zm_ac (om_pk nt_aload (ok_aload_n (l := l) (B := B) (y := m_Mo_compareSizes) (pc := 16) (k := 0) rfl (zd_dr dc_Mo_compareSizes 12 rfl))) ?_
  refine zm_ac (ok_mgetf rfl (ok_getf (l := l) (B := B) (y := m_Mo_compareSizes) (pc := 17) hG (C := zR8) (T := zT8) (N := 21) (ci := 8) (k := 4) rfl zl8 (by decide) (List.mem_of_getElem? (i := 886) (by decide +kernel)) (zd_dr dc_Mo_compareSizes 13 rfl))) ?_
  refine zm_ac (om_pk nt_iload (ok_iload_n (l := l) (B := B) (y := m_Mo_compareSizes) (pc := 20) (k := 2) rfl (zd_dr dc_Mo_compareSizes 14 rfl))) ?_
  refine zm_ac (ok_miaload (ok_iaload (l := l) (B := B) (y := m_Mo_compareSizes) (pc := 21) hG (zd_dr dc_Mo_compareSizes 15 rfl))) ?_
  refine zm_ac (om_pk nt_i2l (ok_i2l (l := l) (B := B) (y := m_Mo_compareSizes) (pc := 22) (zd_dr dc_Mo_compareSizes 16 rfl))) ?_
  refine zm_ac (om_pk nt_aload (ok_aload_n (l := l) (B := B) (y := m_Mo_compareSizes) (pc := 23) (k := 0) rfl (zd_dr dc_Mo_compareSizes 17 rfl))) ?_
  refine zm_ac (ok_mgetf rfl (ok_getf (l := l) (B := B) (y := m_Mo_compareSizes) (pc := 24) hG (C := zR8) (T := zT8) (N := 21) (ci := 8) (k := 6) rfl zl8 (by decide) (List.mem_of_getElem? (i := 888) (by decide +kernel)) (zd_dr dc_Mo_compareSizes 18 rfl))) ?_
  refine zm_ac (om_pk nt_iload (ok_iload_n (l := l) (B := B) (y := m_Mo_compareSizes) (pc := 27) (k := 2) rfl (zd_dr dc_Mo_compareSizes 19 rfl))) ?_
  refine zm_ac (ok_miaload (ok_iaload (l := l) (B := B) (y := m_Mo_compareSizes) (pc := 28) hG (zd_dr dc_Mo_compareSizes 20 rfl))) ?_
  refine zm_ac (om_pk nt_i2l (ok_i2l (l := l) (B := B) (y := m_Mo_compareSizes) (pc := 29) (zd_dr dc_Mo_compareSizes 21 rfl))) ?_
  refine zm_ac (om_pk nt_lsub (ok_lsub (l := l) (B := B) (y := m_Mo_compareSizes) (pc := 30) (zd_dr dc_Mo_compareSizes 22 rfl))) ?_
  refine zm_ac (om_pk nt_lstore (ok_lstore (l := l) (B := B) (y := m_Mo_compareSizes) (pc := 31) (zd_dr dc_Mo_compareSizes 23 rfl) (by decide))) ?_
  refine zm_ac (om_pk nt_lload (ok_lload_n (l := l) (B := B) (y := m_Mo_compareSizes) (pc := 33) (k := 3) rfl (zd_dr dc_Mo_compareSizes 24 rfl))) ?_
  refine zm_ac (om_pk nt_lload (ok_lload (l := l) (B := B) (y := m_Mo_compareSizes) (pc := 34) (zd_dr dc_Mo_compareSizes 25 rfl))) ?_
  refine zm_ac (om_pk nt_lcmp (ok_lcmp (l := l) (B := B) (y := m_Mo_compareSizes) (pc := 36) (zd_dr dc_Mo_compareSizes 26 rfl))) ?_
  refine zm_ac (om_pk nt_if_eq (ok_if_eq (l := l) (B := B) (y := m_Mo_compareSizes) (pc := 37) (zd_dr dc_Mo_compareSizes 27 rfl) (by decide))) ?_
  refine zm_ac (om_pk nt_lload (ok_lload_n (l := l) (B := B) (y := m_Mo_compareSizes) (pc := 40) (k := 3) rfl (zd_dr dc_Mo_compareSizes 28 rfl))) ?_
  refine zm_ac (om_pk nt_lload (ok_lload (l := l) (B := B) (y := m_Mo_compareSizes) (pc := 41) (zd_dr dc_Mo_compareSizes 29 rfl))) ?_
  refine zm_ac (om_pk nt_lcmp (ok_lcmp (l := l) (B := B) (y := m_Mo_compareSizes) (pc := 43) (zd_dr dc_Mo_compareSizes 30 rfl))) ?_
  refine zm_ac (om_pk nt_if_ge (ok_if_ge (l := l) (B := B) (y := m_Mo_compareSizes) (pc := 44) (zd_dr dc_Mo_compareSizes 31 rfl) (by decide))) ?_
  refine zm_ac (om_pk nt_ci (ok_iconst (l := l) (B := B) (y := m_Mo_compareSizes) (pc := 47) (n := (-1)) (zd_dr dc_Mo_compareSizes 32 rfl) rfl)) ?_
  refine zm_ac (om_pk nt_goto (ok_goto (l := l) (B := B) (y := m_Mo_compareSizes) (pc := 48) (zd_dr dc_Mo_compareSizes 33 rfl) (by decide))) ?_
  refine zm_ac (om_pk nt_ci (ok_iconst (l := l) (B := B) (y := m_Mo_compareSizes) (pc := 51) (n := (1)) (zd_dr dc_Mo_compareSizes 34 rfl) rfl)) ?_
  refine zm_ac (ok_miret (ok_iret (l := l) (B := B) (y := m_Mo_compareSizes) (pc := 52) rfl (zd_dr dc_Mo_compareSizes 35 rfl))) ?_
  refine zm_ac (om_pk nt_ci (ok_iconst (l := l) (B := B) (y := m_Mo_compareSizes) (pc := 53) (n := (0)) (zd_dr dc_Mo_compareSizes 36 rfl) rfl)) ?_
  refine zm_ac (om_pk nt_istore (ok_istore (l := l) (B := B) (y := m_Mo_compareSizes) (pc := 54) (zd_dr dc_Mo_compareSizes 37 rfl) (by decide))) ?_
  refine zm_ac (om_pk nt_iload (ok_iload (l := l) (B := B) (y := m_Mo_compareSizes) (pc := 56) (zd_dr dc_Mo_compareSizes 38 rfl))) ?_
  refine zm_ac (om_pk nt_aload (ok_aload_n (l := l) (B := B) (y := m_Mo_compareSizes) (pc := 58) (k := 0) rfl (zd_dr dc_Mo_compareSizes 39 rfl))) ?_
  refine zm_ac (ok_mgetf rfl (ok_getf (l := l) (B := B) (y := m_Mo_compareSizes) (pc := 59) hG (C := zR8) (T := zT8) (N := 21) (ci := 8) (k := 4) rfl zl8 (by decide) (List.mem_of_getElem? (i := 886) (by decide +kernel)) (zd_dr dc_Mo_compareSizes 40 rfl))) ?_
  refine zm_ac (om_pk nt_iload (ok_iload_n (l := l) (B := B) (y := m_Mo_compareSizes) (pc := 62) (k := 1) rfl (zd_dr dc_Mo_compareSizes 41 rfl))) ?_
  refine zm_ac (ok_miaload (ok_iaload (l := l) (B := B) (y := m_Mo_compareSizes) (pc := 63) hG (zd_dr dc_Mo_compareSizes 42 rfl))) ?_
  refine zm_ac (om_pk nt_icmp_lt (ok_icmp_lt (l := l) (B := B) (y := m_Mo_compareSizes) (pc := 64) (zd_dr dc_Mo_compareSizes 43 rfl) (by decide))) ?_
  refine zm_ac (om_pk nt_iload (ok_iload (l := l) (B := B) (y := m_Mo_compareSizes) (pc := 67) (zd_dr dc_Mo_compareSizes 44 rfl))) ?_
  refine zm_ac (om_pk nt_aload (ok_aload_n (l := l) (B := B) (y := m_Mo_compareSizes) (pc := 69) (k := 0) rfl (zd_dr dc_Mo_compareSizes 45 rfl))) ?_
  refine zm_ac (ok_mgetf rfl (ok_getf (l := l) (B := B) (y := m_Mo_compareSizes) (pc := 70) hG (C := zR8) (T := zT8) (N := 21) (ci := 8) (k := 4) rfl zl8 (by decide) (List.mem_of_getElem? (i := 886) (by decide +kernel)) (zd_dr dc_Mo_compareSizes 46 rfl))) ?_
  refine zm_ac (om_pk nt_iload (ok_iload_n (l := l) (B := B) (y := m_Mo_compareSizes) (pc := 73) (k := 2) rfl (zd_dr dc_Mo_compareSizes 47 rfl))) ?_
  refine zm_ac (ok_miaload (ok_iaload (l := l) (B := B) (y := m_Mo_compareSizes) (pc := 74) hG (zd_dr dc_Mo_compareSizes 48 rfl))) ?_
  refine zm_ac (om_pk nt_icmp_ge (ok_icmp_ge (l := l) (B := B) (y := m_Mo_compareSizes) (pc := 75) (zd_dr dc_Mo_compareSizes 49 rfl) (by decide))) ?_
  refine zm_ac (om_pk nt_iload (ok_iload (l := l) (B := B) (y := m_Mo_compareSizes) (pc := 78) (zd_dr dc_Mo_compareSizes 50 rfl))) ?_
  refine zm_ac (om_pk nt_aload (ok_aload_n (l := l) (B := B) (y := m_Mo_compareSizes) (pc := 80) (k := 0) rfl (zd_dr dc_Mo_compareSizes 51 rfl))) ?_
  refine zm_ac (ok_mgetf rfl (ok_getf (l := l) (B := B) (y := m_Mo_compareSizes) (pc := 81) hG (C := zR8) (T := zT8) (N := 21) (ci := 8) (k := 4) rfl zl8 (by decide) (List.mem_of_getElem? (i := 886) (by decide +kernel)) (zd_dr dc_Mo_compareSizes 52 rfl))) ?_
  refine zm_ac (om_pk nt_iload (ok_iload_n (l := l) (B := B) (y := m_Mo_compareSizes) (pc := 84) (k := 1) rfl (zd_dr dc_Mo_compareSizes 53 rfl))) ?_
  refine zm_ac (ok_miaload (ok_iaload (l := l) (B := B) (y := m_Mo_compareSizes) (pc := 85) hG (zd_dr dc_Mo_compareSizes 54 rfl))) ?_
  refine zm_ac (om_pk nt_icmp_ge (ok_icmp_ge (l := l) (B := B) (y := m_Mo_compareSizes) (pc := 86) (zd_dr dc_Mo_compareSizes 55 rfl) (by decide))) ?_
  refine zm_ac (om_pk nt_aload (ok_aload_n (l := l) (B := B) (y := m_Mo_compareSizes) (pc := 89) (k := 0) rfl (zd_dr dc_Mo_compareSizes 56 rfl))) ?_
  refine zm_ac (ok_mgetf rfl (ok_getf (l := l) (B := B) (y := m_Mo_compareSizes) (pc := 90) hG (C := zR8) (T := zT8) (N := 21) (ci := 8) (k := 3) rfl zl8 (by decide) (List.mem_of_getElem? (i := 885) (by decide +kernel)) (zd_dr dc_Mo_compareSizes 57 rfl))) ?_
  refine zm_ac (om_pk nt_ci (ok_sipush (l := l) (B := B) (y := m_Mo_compareSizes) (pc := 93) (n := (1000)) (zd_dr dc_Mo_compareSizes 58 rfl) rfl)) ?_
  refine zm_ac (om_pk nt_iload (ok_iload_n (l := l) (B := B) (y := m_Mo_compareSizes) (pc := 96) (k := 1) rfl (zd_dr dc_Mo_compareSizes 59 rfl))) ?_
  refine zm_ac (om_pk nt_imul (ok_imul (l := l) (B := B) (y := m_Mo_compareSizes) (pc := 97) (zd_dr dc_Mo_compareSizes 60 rfl))) ?_
  refine zm_ac (om_pk nt_iload (ok_iload (l := l) (B := B) (y := m_Mo_compareSizes) (pc := 98) (zd_dr dc_Mo_compareSizes 61 rfl))) ?_
  refine zm_ac (om_pk nt_iadd (ok_iadd (l := l) (B := B) (y := m_Mo_compareSizes) (pc := 100) (zd_dr dc_Mo_compareSizes 62 rfl))) ?_
  refine zm_ac (ok_miaload (ok_iaload (l := l) (B := B) (y := m_Mo_compareSizes) (pc := 101) hG (zd_dr dc_Mo_compareSizes 63 rfl))) ?_
  refine zm_ac (om_pk nt_goto (ok_goto (l := l) (B := B) (y := m_Mo_compareSizes) (pc := 102) (zd_dr dc_Mo_compareSizes 64 rfl) (by decide))) ?_
  refine zm_ac (om_pk nt_ci (ok_iconst (l := l) (B := B) (y := m_Mo_compareSizes) (pc := 105) (n := (0)) (zd_dr dc_Mo_compareSizes 65 rfl) rfl)) ?_
  refine zm_ac (om_pk nt_istore (ok_istore (l := l) (B := B) (y := m_Mo_compareSizes) (pc := 106) (zd_dr dc_Mo_compareSizes 66 rfl) (by decide))) ?_
  refine zm_ac (om_pk nt_iload (ok_iload (l := l) (B := B) (y := m_Mo_compareSizes) (pc := 108) (zd_dr dc_Mo_compareSizes 67 rfl))) ?_
  refine zm_ac (om_pk nt_aload (ok_aload_n (l := l) (B := B) (y := m_Mo_compareSizes) (pc := 110) (k := 0) rfl (zd_dr dc_Mo_compareSizes 68 rfl))) ?_
  refine zm_ac (ok_mgetf rfl (ok_getf (l := l) (B := B) (y := m_Mo_compareSizes) (pc := 111) hG (C := zR8) (T := zT8) (N := 21) (ci := 8) (k := 4) rfl zl8 (by decide) (List.mem_of_getElem? (i := 886) (by decide +kernel)) (zd_dr dc_Mo_compareSizes 69 rfl))) ?_
  refine zm_ac (om_pk nt_iload (ok_iload_n (l := l) (B := B) (y := m_Mo_compareSizes) (pc := 114) (k := 2) rfl (zd_dr dc_Mo_compareSizes 70 rfl))) ?_
  refine zm_ac (ok_miaload (ok_iaload (l := l) (B := B) (y := m_Mo_compareSizes) (pc := 115) hG (zd_dr dc_Mo_compareSizes 71 rfl))) ?_
  refine zm_ac (om_pk nt_icmp_ge (ok_icmp_ge (l := l) (B := B) (y := m_Mo_compareSizes) (pc := 116) (zd_dr dc_Mo_compareSizes 72 rfl) (by decide))) ?_
  refine zm_ac (om_pk nt_aload (ok_aload_n (l := l) (B := B) (y := m_Mo_compareSizes) (pc := 119) (k := 0) rfl (zd_dr dc_Mo_compareSizes 73 rfl))) ?_
  refine zm_ac (ok_mgetf rfl (ok_getf (l := l) (B := B) (y := m_Mo_compareSizes) (pc := 120) hG (C := zR8) (T := zT8) (N := 21) (ci := 8) (k := 3) rfl zl8 (by decide) (List.mem_of_getElem? (i := 885) (by decide +kernel)) (zd_dr dc_Mo_compareSizes 74 rfl))) ?_
  refine zm_ac (om_pk nt_ci (ok_sipush (l := l) (B := B) (y := m_Mo_compareSizes) (pc := 123) (n := (1000)) (zd_dr dc_Mo_compareSizes 75 rfl) rfl)) ?_
  refine zm_ac (om_pk nt_iload (ok_iload_n (l := l) (B := B) (y := m_Mo_compareSizes) (pc := 126) (k := 2) rfl (zd_dr dc_Mo_compareSizes 76 rfl))) ?_
  refine zm_ac (om_pk nt_imul (ok_imul (l := l) (B := B) (y := m_Mo_compareSizes) (pc := 127) (zd_dr dc_Mo_compareSizes 77 rfl))) ?_
  refine zm_ac (om_pk nt_iload (ok_iload (l := l) (B := B) (y := m_Mo_compareSizes) (pc := 128) (zd_dr dc_Mo_compareSizes 78 rfl))) ?_
  refine zm_ac (om_pk nt_iadd (ok_iadd (l := l) (B := B) (y := m_Mo_compareSizes) (pc := 130) (zd_dr dc_Mo_compareSizes 79 rfl))) ?_
  refine zm_ac (ok_miaload (ok_iaload (l := l) (B := B) (y := m_Mo_compareSizes) (pc := 131) hG (zd_dr dc_Mo_compareSizes 80 rfl))) ?_
  refine zm_ac (om_pk nt_goto (ok_goto (l := l) (B := B) (y := m_Mo_compareSizes) (pc := 132) (zd_dr dc_Mo_compareSizes 81 rfl) (by decide))) ?_
  refine zm_ac (om_pk nt_ci (ok_iconst (l := l) (B := B) (y := m_Mo_compareSizes) (pc := 135) (n := (0)) (zd_dr dc_Mo_compareSizes 82 rfl) rfl)) ?_
  refine zm_ac (om_pk nt_istore (ok_istore (l := l) (B := B) (y := m_Mo_compareSizes) (pc := 136) (zd_dr dc_Mo_compareSizes 83 rfl) (by decide))) ?_
  refine zm_ac (om_pk nt_iload (ok_iload (l := l) (B := B) (y := m_Mo_compareSizes) (pc := 138) (zd_dr dc_Mo_compareSizes 84 rfl))) ?_
  refine zm_ac (om_pk nt_iload (ok_iload (l := l) (B := B) (y := m_Mo_compareSizes) (pc := 140) (zd_dr dc_Mo_compareSizes 85 rfl))) ?_
  refine zm_ac (om_pk nt_icmp_eq (ok_icmp_eq (l := l) (B := B) (y := m_Mo_compareSizes) (pc := 142) (zd_dr dc_Mo_compareSizes 86 rfl) (by decide))) ?_
  refine zm_ac (om_pk nt_iload (ok_iload (l := l) (B := B) (y := m_Mo_compareSizes) (pc := 145) (zd_dr dc_Mo_compareSizes 87 rfl))) ?_
  refine zm_ac (om_pk nt_iload (ok_iload (l := l) (B := B) (y := m_Mo_compareSizes) (pc := 147) (zd_dr dc_Mo_compareSizes 88 rfl))) ?_
  refine zm_ac (om_pk nt_icmp_ge (ok_icmp_ge (l := l) (B := B) (y := m_Mo_compareSizes) (pc := 149) (zd_dr dc_Mo_compareSizes 89 rfl) (by decide))) ?_
  refine zm_ac (om_pk nt_ci (ok_iconst (l := l) (B := B) (y := m_Mo_compareSizes) (pc := 152) (n := (-1)) (zd_dr dc_Mo_compareSizes 90 rfl) rfl)) ?_
  refine zm_ac (om_pk nt_goto (ok_goto (l := l) (B := B) (y := m_Mo_compareSizes) (pc := 153) (zd_dr dc_Mo_compareSizes 91 rfl) (by decide))) ?_
  refine zm_ac (om_pk nt_ci (ok_iconst (l := l) (B := B) (y := m_Mo_compareSizes) (pc := 156) (n := (1)) (zd_dr dc_Mo_compareSizes 92 rfl) rfl)) ?_
  refine zm_ac (ok_miret (ok_iret (l := l) (B := B) (y := m_Mo_compareSizes) (pc := 157) rfl (zd_dr dc_Mo_compareSizes 93 rfl))) ?_
  refine zm_ac (om_pk nt_iinc (ok_iinc (l := l) (B := B) (y := m_Mo_compareSizes) (pc := 158) (zd_dr dc_Mo_compareSizes 94 rfl) (by decide) rfl)) ?_
  refine zm_ac (om_pk nt_goto (ok_goto (l := l) (B := B) (y := m_Mo_compareSizes) (pc := 161) (zd_dr dc_Mo_compareSizes 95 rfl) (by decide))) ?_
  refine zm_ac (om_pk nt_ci (ok_iconst (l := l) (B := B) (y := m_Mo_compareSizes) (pc := 164) (n := (0)) (zd_dr dc_Mo_compareSizes 96 rfl) rfl)) ?_
  refine zm_ac (ok_miret (ok_iret (l := l) (B := B) (y := m_Mo_compareSizes) (pc := 165) rfl (zd_dr dc_Mo_compareSizes 97 rfl))) ?_
  exact zm_an
def dl_Mo_compare : List (Nat × Instr × Nat) := [(0, .aload_n 0, 1), (1, .iload_n 1, 1), (2, .invokestatic 113, 3), (5, .ifCond .ne (10), 3), (8, .iload_n 2, 1), (9, .invokestatic 113, 3), (12, .ifCond .eq (7), 3), (15, .iconst (1), 1), (16, .goto (4), 3), (19, .iconst (0), 1), (20, .putfield 41, 3), (23, .aload_n 0, 1), (24, .getfield 41, 3), (27, .ifCond .le (5), 3), (30, .iconst (0), 1), (31, .ireturn, 1), (32, .aload_n 0, 1), (33, .iload_n 1, 1), (34, .invokevirtual 120, 3), (37, .ifCond .eq (7), 3), (40, .iconst (0), 1), (41, .goto (17), 3), (44, .aload_n 0, 1), (45, .getfield 19, 3), (48, .iload_n 1, 1), (49, .baload, 1), (50, .ifCond .eq (7), 3), (53, .iconst (-1), 1), (54, .goto (4), 3), (57, .iconst (1), 1), (58, .istore_n 3, 1), (59, .aload_n 0, 1), (60, .iload_n 2, 1), (61, .invokevirtual 120, 3), (64, .ifCond .eq (7), 3), (67, .iconst (0), 1), (68, .goto (17), 3), (71, .aload_n 0, 1), (72, .getfield 19, 3), (75, .iload_n 2, 1), (76, .baload, 1), (77, .ifCond .eq (7), 3), (80, .iconst (-1), 1), (81, .goto (4), 3), (84, .iconst (1), 1), (85, .istore 4, 2), (87, .iload_n 3, 1), (88, .iload 4, 2), (90, .if_icmp .ne (7), 3), (93, .iload_n 3, 1), (94, .ifCond .ne (25), 3), (97, .iload_n 3, 1), (98, .iload 4, 2), (100, .if_icmp .ge (7), 3), (103, .iconst (-1), 1), (104, .goto (14), 3), (107, .iload_n 3, 1), (108, .iload 4, 2), (110, .if_icmp .le (7), 3), (113, .iconst (1), 1), (114, .goto (4), 3), (117, .iconst (0), 1), (118, .ireturn, 1), (119, .iload_n 3, 1), (120, .aload_n 0, 1), (121, .iload_n 1, 1), (122, .iload_n 2, 1), (123, .invokevirtual 123, 3), (126, .imul, 1), (127, .ireturn, 1)]
theorem dc_Mo_compare : ∀ q ∈ dl_Mo_compare, decode (zd_yb m_Mo_compare) q.1 = .ok q.2 := by decide +kernel
def cm_Mo_compare (l : Launch) (B : zd_B) : List (Nat × zm_S) := [(0, om_p (oc_aload 0 1)), (1, om_p (oc_iload 1 2)), (2, om_calls l B gM m_Mo_no 1 5), (5, om_p (oc_if_ne 15 8)), (8, om_p (oc_iload 2 9)), (9, om_calls l B gM m_Mo_no 1 12), (12, om_p (oc_if_eq 19 15)), (15, om_p (oc_ci (1) 16)), (16, om_p (oc_goto 20)), (19, om_p (oc_ci (0) 20)), (20, om_puti gM 0 23), (23, om_p (oc_aload 0 24)), (24, om_getf gM 0 27), (27, om_p (oc_if_le 32 30)), (30, om_p (oc_ci (0) 31)), (31, om_iret), (32, om_p (oc_aload 0 33)), (33, om_p (oc_iload 1 34)), (34, om_callv l B gM m_Mo_isZero 1 37), (37, om_p (oc_if_eq 44 40)), (40, om_p (oc_ci (0) 41)), (41, om_p (oc_goto 58)), (44, om_p (oc_aload 0 45)), (45, om_getf gM 5 48), (48, om_p (oc_iload 1 49)), (49, om_ald gM 2 50), (50, om_p (oc_if_eq 57 53)), (53, om_p (oc_ci (-1) 54)), (54, om_p (oc_goto 58)), (57, om_p (oc_ci (1) 58)), (58, om_p (oc_istore 3 59)), (59, om_p (oc_aload 0 60)), (60, om_p (oc_iload 2 61)), (61, om_callv l B gM m_Mo_isZero 1 64), (64, om_p (oc_if_eq 71 67)), (67, om_p (oc_ci (0) 68)), (68, om_p (oc_goto 85)), (71, om_p (oc_aload 0 72)), (72, om_getf gM 5 75), (75, om_p (oc_iload 2 76)), (76, om_ald gM 2 77), (77, om_p (oc_if_eq 84 80)), (80, om_p (oc_ci (-1) 81)), (81, om_p (oc_goto 85)), (84, om_p (oc_ci (1) 85)), (85, om_p (oc_istore 4 87)), (87, om_p (oc_iload 3 88)), (88, om_p (oc_iload 4 90)), (90, om_p (oc_icmp_ne 97 93)), (93, om_p (oc_iload 3 94)), (94, om_p (oc_if_ne 119 97)), (97, om_p (oc_iload 3 98)), (98, om_p (oc_iload 4 100)), (100, om_p (oc_icmp_ge 107 103)), (103, om_p (oc_ci (-1) 104)), (104, om_p (oc_goto 118)), (107, om_p (oc_iload 3 108)), (108, om_p (oc_iload 4 110)), (110, om_p (oc_icmp_le 117 113)), (113, om_p (oc_ci (1) 114)), (114, om_p (oc_goto 118)), (117, om_p (oc_ci (0) 118)), (118, om_iret), (119, om_p (oc_iload 3 120)), (120, om_p (oc_aload 0 121)), (121, om_p (oc_iload 1 122)), (122, om_p (oc_iload 2 123)), (123, om_callv l B gM m_Mo_compareSizes 2 126), (126, om_p (oc_imul 127)), (127, om_iret)]
set_option maxRecDepth 20000 in
theorem okm_Mo_compare {l : Launch} {B : zd_B} (hG : zd_G B) (hl : l.stackTraces = false) : ∀ q ∈ cm_Mo_compare l B, zm_ok l B gM m_Mo_compare q.1 q.2 := by
  unfold cm_Mo_compare
  refine zm_ac (om_pk nt_aload (ok_aload_n (l := l) (B := B) (y := m_Mo_compare) (pc := 0) (k := 0) rfl (zd_dr dc_Mo_compare 0 rfl))) ?_
  refine zm_ac (om_pk nt_iload (ok_iload_n (l := l) (B := B) (y := m_Mo_compare) (pc := 1) (k := 1) rfl (zd_dr dc_Mo_compare 1 rfl))) ?_
  refine zm_ac (ok_mcalls (ok_calls (l := l) (B := B) (y := m_Mo_compare) (pc := 2) hG cf_Mo_compare_Mo_no rfl (List.mem_of_getElem? (i := 964) (by decide +kernel)) (List.mem_of_getElem? (i := 965) (by decide +kernel)) (List.mem_of_getElem? (i := 64) (by decide +kernel)) (zd_dr dc_Mo_compare 2 rfl))) ?_
  refine zm_ac (om_pk nt_if_ne (ok_if_ne (l := l) (B := B) (y := m_Mo_compare) (pc := 5) (zd_dr dc_Mo_compare 3 rfl) (by decide))) ?_
  refine zm_ac (om_pk nt_iload (ok_iload_n (l := l) (B := B) (y := m_Mo_compare) (pc := 8) (k := 2) rfl (zd_dr dc_Mo_compare 4 rfl))) ?_
  refine zm_ac (ok_mcalls (ok_calls (l := l) (B := B) (y := m_Mo_compare) (pc := 9) hG cf_Mo_compare_Mo_no rfl (List.mem_of_getElem? (i := 964) (by decide +kernel)) (List.mem_of_getElem? (i := 965) (by decide +kernel)) (List.mem_of_getElem? (i := 64) (by decide +kernel)) (zd_dr dc_Mo_compare 5 rfl))) ?_
  refine zm_ac (om_pk nt_if_eq (ok_if_eq (l := l) (B := B) (y := m_Mo_compare) (pc := 12) (zd_dr dc_Mo_compare 6 rfl) (by decide))) ?_
  refine zm_ac (om_pk nt_ci (ok_iconst (l := l) (B := B) (y := m_Mo_compare) (pc := 15) (n := (1)) (zd_dr dc_Mo_compare 7 rfl) rfl)) ?_
  refine zm_ac (om_pk nt_goto (ok_goto (l := l) (B := B) (y := m_Mo_compare) (pc := 16) (zd_dr dc_Mo_compare 8 rfl) (by decide))) ?_
  refine zm_ac (om_pk nt_ci (ok_iconst (l := l) (B := B) (y := m_Mo_compare) (pc := 19) (n := (0)) (zd_dr dc_Mo_compare 9 rfl) rfl)) ?_
  refine zm_ac (ok_mputi rfl (ok_putf (l := l) (B := B) (y := m_Mo_compare) (pc := 20) hG (C := zR8) (T := zT8) (N := 21) (ci := 8) (k := 0) rfl zl8 zt8 (by decide) (List.mem_of_getElem? (i := 882) (by decide +kernel)) rfl (zd_dr dc_Mo_compare 10 rfl))) ?_
  refine zm_ac (om_pk nt_aload (ok_aload_n (l := l) (B := B) (y := m_Mo_compare) (pc := 23) (k := 0) rfl (zd_dr dc_Mo_compare 11 rfl))) ?_
  refine zm_ac (ok_mgetf rfl (ok_getf (l := l) (B := B) (y := m_Mo_compare) (pc := 24) hG (C := zR8) (T := zT8) (N := 21) (ci := 8) (k := 0) rfl zl8 (by decide) (List.mem_of_getElem? (i := 882) (by decide +kernel)) (zd_dr dc_Mo_compare 12 rfl))) ?_
  refine zm_ac (om_pk nt_if_le (ok_if_le (l := l) (B := B) (y := m_Mo_compare) (pc := 27) (zd_dr dc_Mo_compare 13 rfl) (by decide))) ?_
  refine zm_ac (om_pk nt_ci (ok_iconst (l := l) (B := B) (y := m_Mo_compare) (pc := 30) (n := (0)) (zd_dr dc_Mo_compare 14 rfl) rfl)) ?_
  refine zm_ac (ok_miret (ok_iret (l := l) (B := B) (y := m_Mo_compare) (pc := 31) rfl (zd_dr dc_Mo_compare 15 rfl))) ?_
  refine zm_ac (om_pk nt_aload (ok_aload_n (l := l) (B := B) (y := m_Mo_compare) (pc := 32) (k := 0) rfl (zd_dr dc_Mo_compare 16 rfl))) ?_
  refine zm_ac (om_pk nt_iload (ok_iload_n (l := l) (B := B) (y := m_Mo_compare) (pc := 33) (k := 1) rfl (zd_dr dc_Mo_compare 17 rfl))) ?_
  refine zm_ac (ok_mcallv rfl (ok_callv (l := l) (B := B) (y := m_Mo_compare) (pc := 34) hG (ci := 8) rfl cf_Mo_compare_Mo_isZero rfl (List.mem_of_getElem? (i := 998) (by decide +kernel)) (List.mem_of_getElem? (i := 1000) (by decide +kernel)) (List.mem_of_getElem? (i := 31) (by decide +kernel)) (zd_dr dc_Mo_compare 18 rfl))) ?_
  refine zm_ac (om_pk nt_if_eq (ok_if_eq (l := l) (B := B) (y := m_Mo_compare) (pc := 37) (zd_dr dc_Mo_compare 19 rfl) (by decide))) ?_
  refine zm_ac (om_pk nt_ci (ok_iconst (l := l) (B := B) (y := m_Mo_compare) (pc := 40) (n := (0)) (zd_dr dc_Mo_compare 20 rfl) rfl)) ?_
  refine zm_ac (om_pk nt_goto (ok_goto (l := l) (B := B) (y := m_Mo_compare) (pc := 41) (zd_dr dc_Mo_compare 21 rfl) (by decide))) ?_
  refine zm_ac (om_pk nt_aload (ok_aload_n (l := l) (B := B) (y := m_Mo_compare) (pc := 44) (k := 0) rfl (zd_dr dc_Mo_compare 22 rfl))) ?_
  refine zm_ac (ok_mgetf rfl (ok_getf (l := l) (B := B) (y := m_Mo_compare) (pc := 45) hG (C := zR8) (T := zT8) (N := 21) (ci := 8) (k := 5) rfl zl8 (by decide) (List.mem_of_getElem? (i := 887) (by decide +kernel)) (zd_dr dc_Mo_compare 23 rfl))) ?_
  refine zm_ac (om_pk nt_iload (ok_iload_n (l := l) (B := B) (y := m_Mo_compare) (pc := 48) (k := 1) rfl (zd_dr dc_Mo_compare 24 rfl))) ?_
  refine zm_ac (ok_mbaload (ok_baload (l := l) (B := B) (y := m_Mo_compare) (pc := 49) hG (zd_dr dc_Mo_compare 25 rfl))) ?_
  refine zm_ac (om_pk nt_if_eq (ok_if_eq (l := l) (B := B) (y := m_Mo_compare) (pc := 50) (zd_dr dc_Mo_compare 26 rfl) (by decide))) ?_
  refine zm_ac (om_pk nt_ci (ok_iconst (l := l) (B := B) (y := m_Mo_compare) (pc := 53) (n := (-1)) (zd_dr dc_Mo_compare 27 rfl) rfl)) ?_
  refine zm_ac (om_pk nt_goto (ok_goto (l := l) (B := B) (y := m_Mo_compare) (pc := 54) (zd_dr dc_Mo_compare 28 rfl) (by decide))) ?_
  refine zm_ac (om_pk nt_ci (ok_iconst (l := l) (B := B) (y := m_Mo_compare) (pc := 57) (n := (1)) (zd_dr dc_Mo_compare 29 rfl) rfl)) ?_
  refine zm_ac (om_pk nt_istore (ok_istore_n (l := l) (B := B) (y := m_Mo_compare) (pc := 58) (k := 3) rfl (zd_dr dc_Mo_compare 30 rfl) (by decide))) ?_
  refine zm_ac (om_pk nt_aload (ok_aload_n (l := l) (B := B) (y := m_Mo_compare) (pc := 59) (k := 0) rfl (zd_dr dc_Mo_compare 31 rfl))) ?_
  refine zm_ac (om_pk nt_iload (ok_iload_n (l := l) (B := B) (y := m_Mo_compare) (pc := 60) (k := 2) rfl (zd_dr dc_Mo_compare 32 rfl))) ?_
  refine zm_ac (ok_mcallv rfl (ok_callv (l := l) (B := B) (y := m_Mo_compare) (pc := 61) hG (ci := 8) rfl cf_Mo_compare_Mo_isZero rfl (List.mem_of_getElem? (i := 998) (by decide +kernel)) (List.mem_of_getElem? (i := 1000) (by decide +kernel)) (List.mem_of_getElem? (i := 31) (by decide +kernel)) (zd_dr dc_Mo_compare 33 rfl))) ?_
  refine zm_ac (om_pk nt_if_eq (ok_if_eq (l := l) (B := B) (y := m_Mo_compare) (pc := 64) (zd_dr dc_Mo_compare 34 rfl) (by decide))) ?_
  refine zm_ac (om_pk nt_ci (ok_iconst (l := l) (B := B) (y := m_Mo_compare) (pc := 67) (n := (0)) (zd_dr dc_Mo_compare 35 rfl) rfl)) ?_
  refine zm_ac (om_pk nt_goto (ok_goto (l := l) (B := B) (y := m_Mo_compare) (pc := 68) (zd_dr dc_Mo_compare 36 rfl) (by decide))) ?_
  refine zm_ac (om_pk nt_aload (ok_aload_n (l := l) (B := B) (y := m_Mo_compare) (pc := 71) (k := 0) rfl (zd_dr dc_Mo_compare 37 rfl))) ?_
  refine zm_ac (ok_mgetf rfl (ok_getf (l := l) (B := B) (y := m_Mo_compare) (pc := 72) hG (C := zR8) (T := zT8) (N := 21) (ci := 8) (k := 5) rfl zl8 (by decide) (List.mem_of_getElem? (i := 887) (by decide +kernel)) (zd_dr dc_Mo_compare 38 rfl))) ?_
  refine zm_ac (om_pk nt_iload (ok_iload_n (l := l) (B := B) (y := m_Mo_compare) (pc := 75) (k := 2) rfl (zd_dr dc_Mo_compare 39 rfl))) ?_
  refine zm_ac (ok_mbaload (ok_baload (l := l) (B := B) (y := m_Mo_compare) (pc := 76) hG (zd_dr dc_Mo_compare 40 rfl))) ?_
  refine zm_ac (om_pk nt_if_eq (ok_if_eq (l := l) (B := B) (y := m_Mo_compare) (pc := 77) (zd_dr dc_Mo_compare 41 rfl) (by decide))) ?_
  refine zm_ac (om_pk nt_ci (ok_iconst (l := l) (B := B) (y := m_Mo_compare) (pc := 80) (n := (-1)) (zd_dr dc_Mo_compare 42 rfl) rfl)) ?_
  refine zm_ac (om_pk nt_goto (ok_goto (l := l) (B := B) (y := m_Mo_compare) (pc := 81) (zd_dr dc_Mo_compare 43 rfl) (by decide))) ?_
  refine zm_ac (om_pk nt_ci (ok_iconst (l := l) (B := B) (y := m_Mo_compare) (pc := 84) (n := (1)) (zd_dr dc_Mo_compare 44 rfl) rfl)) ?_
  refine zm_ac (om_pk nt_istore (ok_istore (l := l) (B := B) (y := m_Mo_compare) (pc := 85) (zd_dr dc_Mo_compare 45 rfl) (by decide))) ?_
  refine zm_ac (om_pk nt_iload (ok_iload_n (l := l) (B := B) (y := m_Mo_compare) (pc := 87) (k := 3) rfl (zd_dr dc_Mo_compare 46 rfl))) ?_
  refine zm_ac (om_pk nt_iload (ok_iload (l := l) (B := B) (y := m_Mo_compare) (pc := 88) (zd_dr dc_Mo_compare 47 rfl))) ?_
  refine zm_ac (om_pk nt_icmp_ne (ok_icmp_ne (l := l) (B := B) (y := m_Mo_compare) (pc := 90) (zd_dr dc_Mo_compare 48 rfl) (by decide))) ?_
  refine zm_ac (om_pk nt_iload (ok_iload_n (l := l) (B := B) (y := m_Mo_compare) (pc := 93) (k := 3) rfl (zd_dr dc_Mo_compare 49 rfl))) ?_
  refine zm_ac (om_pk nt_if_ne (ok_if_ne (l := l) (B := B) (y := m_Mo_compare) (pc := 94) (zd_dr dc_Mo_compare 50 rfl) (by decide))) ?_
  refine zm_ac (om_pk nt_iload (ok_iload_n (l := l) (B := B) (y := m_Mo_compare) (pc := 97) (k := 3) rfl (zd_dr dc_Mo_compare 51 rfl))) ?_
  refine zm_ac (om_pk nt_iload (ok_iload (l := l) (B := B) (y := m_Mo_compare) (pc := 98) (zd_dr dc_Mo_compare 52 rfl))) ?_
  refine zm_ac (om_pk nt_icmp_ge (ok_icmp_ge (l := l) (B := B) (y := m_Mo_compare) (pc := 100) (zd_dr dc_Mo_compare 53 rfl) (by decide))) ?_
  refine zm_ac (om_pk nt_ci (ok_iconst (l := l) (B := B) (y := m_Mo_compare) (pc := 103) (n := (-1)) (zd_dr dc_Mo_compare 54 rfl) rfl)) ?_
  refine zm_ac (om_pk nt_goto (ok_goto (l := l) (B := B) (y := m_Mo_compare) (pc := 104) (zd_dr dc_Mo_compare 55 rfl) (by decide))) ?_
  refine zm_ac (om_pk nt_iload (ok_iload_n (l := l) (B := B) (y := m_Mo_compare) (pc := 107) (k := 3) rfl (zd_dr dc_Mo_compare 56 rfl))) ?_
  refine zm_ac (om_pk nt_iload (ok_iload (l := l) (B := B) (y := m_Mo_compare) (pc := 108) (zd_dr dc_Mo_compare 57 rfl))) ?_
  refine zm_ac (om_pk nt_icmp_le (ok_icmp_le (l := l) (B := B) (y := m_Mo_compare) (pc := 110) (zd_dr dc_Mo_compare 58 rfl) (by decide))) ?_
  refine zm_ac (om_pk nt_ci (ok_iconst (l := l) (B := B) (y := m_Mo_compare) (pc := 113) (n := (1)) (zd_dr dc_Mo_compare 59 rfl) rfl)) ?_
  refine zm_ac (om_pk nt_goto (ok_goto (l := l) (B := B) (y := m_Mo_compare) (pc := 114) (zd_dr dc_Mo_compare 60 rfl) (by decide))) ?_
  refine zm_ac (om_pk nt_ci (ok_iconst (l := l) (B := B) (y := m_Mo_compare) (pc := 117) (n := (0)) (zd_dr dc_Mo_compare 61 rfl) rfl)) ?_
  refine zm_ac (ok_miret (ok_iret (l := l) (B := B) (y := m_Mo_compare) (pc := 118) rfl (zd_dr dc_Mo_compare 62 rfl))) ?_
  refine zm_ac (om_pk nt_iload (ok_iload_n (l := l) (B := B) (y := m_Mo_compare) (pc := 119) (k := 3) rfl (zd_dr dc_Mo_compare 63 rfl))) ?_
  refine zm_ac (om_pk nt_aload (ok_aload_n (l := l) (B := B) (y := m_Mo_compare) (pc := 120) (k := 0) rfl (zd_dr dc_Mo_compare 64 rfl))) ?_
  refine zm_ac (om_pk nt_iload (ok_iload_n (l := l) (B := B) (y := m_Mo_compare) (pc := 121) (k := 1) rfl (zd_dr dc_Mo_compare 65 rfl))) ?_
  refine zm_ac (om_pk nt_iload (ok_iload_n (l := l) (B := B) (y := m_Mo_compare) (pc := 122) (k := 2) rfl (zd_dr dc_Mo_compare 66 rfl))) ?_
  refine zm_ac (ok_mcallv rfl (ok_callv (l := l) (B := B) (y := m_Mo_compare) (pc := 123) hG (ci := 8) rfl cf_Mo_compare_Mo_compareSizes rfl (List.mem_of_getElem? (i := 1002) (by decide +kernel)) (List.mem_of_getElem? (i := 1004) (by decide +kernel)) (List.mem_of_getElem? (i := 32) (by decide +kernel)) (zd_dr dc_Mo_compare 67 rfl))) ?_
  refine zm_ac (om_pk nt_imul (ok_imul (l := l) (B := B) (y := m_Mo_compare) (pc := 126) (zd_dr dc_Mo_compare 68 rfl))) ?_
  refine zm_ac (ok_miret (ok_iret (l := l) (B := B) (y := m_Mo_compare) (pc := 127) rfl (zd_dr dc_Mo_compare 69 rfl))) ?_
  exact zm_an
